noncomputable section YR48
/-! the batch: the machine of shares and workers, and both sides against it -/
def yb48X (x : Int) : Int := xop 36 (xop 38 x 6364136223846793005) 1442695040888963407
def yb48P (w x : Int) : Int := xop 40 (xop 51 (yb48X x) 33) w
def yb48u (S : Nat → Int) (p : Nat) (v : Int) : Nat → Int := fun k => if k = p then v else S k
def yb48k (w : Int) (q : Nat) (S : Nat → Int) : Prop := q = 0 ∧ ∀ p : Nat, (p : Int) < w → S p = -1
/-- behind a worker's turn -/
def yb48h (w : Int) (q : Nat) (f : Int) (S : Nat → Int) (go : Int) : Int := if f = 8 then 0 else @ite Int (yb48k w q S) (Classical.propDecidable _) (-2) go
/-- how it ends: n ticks left, q shares wait, f finished -/
def yb48 (w : Int) : Nat → Nat → Int → Int → (Nat → Int) → Int
  | 0, _, _, _, _ => -3
  | n + 1, q, x, f, S =>
    if S (yb48P w x).toNat = -1 then (if q = 0 then yb48h w 0 f S (yb48 w n 0 (yb48X x) f S) else yb48h w (q - 1) f (yb48u S (yb48P w x).toNat (8 - (q : Int))) (yb48 w n (q - 1) (yb48X x) f (yb48u S (yb48P w x).toNat (8 - (q : Int))))) else yb48h w q (f + 1) (yb48u S (yb48P w x).toNat (-1)) (yb48 w n q (yb48X x) (f + 1) (yb48u S (yb48P w x).toNat (-1)))
def yb48a (w : Int) (n q : Nat) (x f : Int) (S : Nat → Int) : Int := yb48h w q f S (yb48 w n q x f S)
/-- what comes of the worker at p -/
def yb48w (w : Int) (n q : Nat) (x f : Int) (S : Nat → Int) (p : Nat) : Int := if S p = -1 then (if q = 0 then yb48a w n 0 x f S else yb48a w n (q - 1) x f (yb48u S p (8 - (q : Int)))) else yb48a w n q x (f + 1) (yb48u S p (-1))
theorem yb48_s {w : Int} {n q : Nat} {x f : Int} {S : Nat → Int} : yb48 w (n + 1) q x f S = yb48w w n q (yb48X x) f S (yb48P w x).toNat := rfl
theorem yb48a_8 {w : Int} {n q : Nat} {x f : Int} {S : Nat → Int} (h : f = 8) : yb48a w n q x f S = 0 := if_pos h
theorem yb48a_k {w : Int} {n q : Nat} {x f : Int} {S : Nat → Int} (h : f ≠ 8) (hk : yb48k w q S) : yb48a w n q x f S = -2 := by
  unfold yb48a yb48h
  rw [if_neg h, if_pos hk]
theorem yb48a_g {w : Int} {n q : Nat} {x f : Int} {S : Nat → Int} (h : f ≠ 8) (hk : ¬ yb48k w q S) : yb48a w n q x f S = yb48 w n q x f S := by
  unfold yb48a yb48h
  rw [if_neg h, if_neg hk]
/-- shares held, done, waiting -/
def yb48J (w : Int) (q : Nat) (S D : Nat → Int) : Prop :=
  (∀ p : Nat, (p : Int) < w → -1 ≤ S p ∧ S p < 8 - (q : Int)) ∧
  (∀ p p2 : Nat, (p : Int) < w → (p2 : Int) < w → S p = S p2 → S p ≠ -1 → p = p2) ∧
  (∀ p : Nat, (p : Int) < w → S p ≠ -1 → D (S p).toNat = 0) ∧ (∀ s : Nat, 8 ≤ s + q → s < 8 → D s = 0)
theorem yb48J_take {w : Int} {q p : Nat} {S D : Nat → Int} (h : yb48J w (q + 1) S D) (hp : (p : Int) < w) (hq : q + 1 ≤ 8) : yb48J w q (yb48u S p (8 - ((q + 1 : Nat) : Int))) D := by
  obtain ⟨h1, h2, h3, h4⟩ := h
  refine ⟨fun k hk => ?_, fun k k2 hk hk2 e n => ?_, fun k hk n => ?_, fun s hs hs8 => h4 s (by omega) hs8⟩
  · show -1 ≤ (if k = p then _ else S k) ∧ (if k = p then _ else S k) < _
    have := h1 k hk
    split <;> omega
  · have a := h1 k hk
    have a2 := h1 k2 hk2
    have e : (if k = p then (8 - ((q + 1 : Nat) : Int)) else S k) = (if k2 = p then (8 - ((q + 1 : Nat) : Int)) else S k2) := e
    have n : (if k = p then (8 - ((q + 1 : Nat) : Int)) else S k) ≠ -1 := n
    by_cases c1 : k = p
    · by_cases c2 : k2 = p
      · omega
      · rw [if_pos c1, if_neg c2] at e
        omega
    · by_cases c2 : k2 = p
      · rw [if_neg c1, if_pos c2] at e
        omega
      · rw [if_neg c1, if_neg c2] at e
        rw [if_neg c1] at n
        exact h2 k k2 hk hk2 e n
  · have n : (if k = p then (8 - ((q + 1 : Nat) : Int)) else S k) ≠ -1 := n
    show D (if k = p then (8 - ((q + 1 : Nat) : Int)) else S k).toNat = 0
    by_cases c1 : k = p
    · rw [if_pos c1]
      exact h4 _ (by omega) (by omega)
    · rw [if_neg c1] at n ⊢
      exact h3 k hk n
theorem yb48J_step {w : Int} {q p : Nat} {S D D2 : Nat → Int} (h : yb48J w q S D) (hp : (p : Int) < w) (hs : S p ≠ -1) (hD : ∀ s : Nat, s < 8 → s ≠ (S p).toNat → D2 s = D s) (hq : q ≤ 8) : yb48J w q (yb48u S p (-1)) D2 := by
  obtain ⟨h1, h2, h3, h4⟩ := h
  have b := h1 p hp
  refine ⟨fun k hk => ?_, fun k k2 hk hk2 e n => ?_, fun k hk n => ?_, fun s hs1 hs8 => ?_⟩
  · show -1 ≤ (if k = p then (-1 : Int) else S k) ∧ (if k = p then (-1 : Int) else S k) < _
    have := h1 k hk
    split <;> omega
  · have e : (if k = p then (-1 : Int) else S k) = (if k2 = p then (-1 : Int) else S k2) := e
    have n : (if k = p then (-1 : Int) else S k) ≠ -1 := n
    by_cases c1 : k = p
    · rw [if_pos c1] at n
      exact absurd rfl n
    · rw [if_neg c1] at n e
      by_cases c2 : k2 = p
      · rw [if_pos c2] at e
        exact absurd e n
      · rw [if_neg c2] at e
        exact h2 k k2 hk hk2 e n
  · have n : (if k = p then (-1 : Int) else S k) ≠ -1 := n
    show D2 (if k = p then (-1 : Int) else S k).toNat = 0
    by_cases c1 : k = p
    · rw [if_pos c1] at n
      exact absurd rfl n
    · rw [if_neg c1] at n ⊢
      have b2 := h1 k hk
      rw [hD _ (by omega) (fun e => c1 (h2 k p hk hp (by omega) n))]
      exact h3 k hk n
  · rw [hD s hs8 (by omega)]
    exact h4 s hs1 hs8
/-- the unknowns are the machine's state -/
def yb48M (r : Nat → Int) (w : Int) (q : Nat) (x f : Int) (S D : Nat → Int) : Prop :=
  r 128 = w ∧ r 1048577 = x ∧ r 1048704 = f ∧ (∀ p : Nat, (p : Int) < w → r (4194310 + 64 * p) = S p) ∧ (∀ s : Nat, s < 8 → r (4195394 + 64 * s) = D s) ∧ yb48J w q S D
theorem yas {r r2 : Nat → Int} {c : xCd} (hR : xRel c r r2) {v : Nat} {e : xjE} (h : (.var v, e, 0, 0) ∈ c.2.2.2.2.1) : r2 v = xden r e := by
  have a := hR.1 _ h
  have a : 0 ≤ r2 v - xden r e ∧ r2 v - xden r e ≤ 0 := a
  omega
/-! what follows from what is known of the value; yq hides an equation from omega -/
def yq (a b : Int) : Prop := a = b
theorem yq_r (a : Int) : yq a a := rfl
theorem yb48_t {w : Int} {n q : Nat} {x f y0 : Int} {S : Nat → Int} (h : yq (yb48 w (n + 1) q x f S) y0) : yq (yb48w w n q (yb48X x) f S (yb48P w x).toNat) y0 := h
theorem yb48a_n {w : Int} {n q : Nat} {x f y0 : Int} {S : Nat → Int} (h : yq (yb48a w n q x f S) y0) (h8 : f ≠ 8) (hq : q ≠ 0) : yq (yb48 w n q x f S) y0 := by
  have h : yb48a w n q x f S = y0 := h
  show yb48 w n q x f S = y0
  rw [← h, yb48a_g h8 (fun k => hq k.1)]
theorem yb48a_m {w : Int} {n q : Nat} {x f y0 : Int} {S : Nat → Int} (h : yq (yb48a w n q x f S) y0) (h8 : f ≠ 8) (hk : ¬ yb48k w q S) : yq (yb48 w n q x f S) y0 := by
  have h : yb48a w n q x f S = y0 := h
  show yb48 w n q x f S = y0
  rw [← h, yb48a_g h8 hk]
theorem yb48a_s {w : Int} {n q : Nat} {x f y0 : Int} {S : Nat → Int} (h : yq (yb48a w n q x f S) y0) (h8 : f ≠ 8) (hk : yb48k w q S) : y0 = -2 := by
  have h : yb48a w n q x f S = y0 := h
  rw [← h, yb48a_k h8 hk]
theorem yb48a_e {w : Int} {n q : Nat} {x f y0 : Int} {S : Nat → Int} (h : yq (yb48a w n q x f S) y0) (h8 : f = 8) : y0 = 0 := by
  have h : yb48a w n q x f S = y0 := h
  rw [← h, yb48a_8 h8]
theorem yb48_0 {w : Int} {q : Nat} {x f y0 : Int} {S : Nat → Int} (h : yq (yb48 w 0 q x f S) y0) : y0 = -3 := h.symm
theorem yb48w_z {w : Int} {n p : Nat} {x f y0 : Int} {S : Nat → Int} (h : yq (yb48w w n 0 x f S p) y0) (e : S p = -1) : yq (yb48a w n 0 x f S) y0 := by
  have h : yb48w w n 0 x f S p = y0 := h
  show _ = y0
  rw [← h]
  unfold yb48w
  rw [if_pos e, if_pos rfl]
theorem yb48w_t {w : Int} {n q p : Nat} {x f y0 : Int} {S : Nat → Int} (h : yq (yb48w w n (q + 1) x f S p) y0) (e : S p = -1) : yq (yb48a w n q x f (yb48u S p (8 - ((q + 1 : Nat) : Int)))) y0 := by
  have h : yb48w w n (q + 1) x f S p = y0 := h
  show _ = y0
  rw [← h]
  unfold yb48w
  rw [if_pos e, if_neg (by omega)]
  rfl
theorem yb48w_s {w : Int} {n q p : Nat} {x f y0 : Int} {S : Nat → Int} (h : yq (yb48w w n q x f S p) y0) (e : S p ≠ -1) : yq (yb48a w n q x (f + 1) (yb48u S p (-1))) y0 := by
  have h : yb48w w n q x f S p = y0 := h
  show _ = y0
  rw [← h]
  unfold yb48w
  rw [if_neg e]
theorem yb48_w1 {w z : Int} (h : 0 ≤ z ∧ z < w) (h2 : w ≤ 16) : 1 ≤ w - z ∧ w - z ≤ 16 := by omega
theorem yb48_w2 {w z : Int} (h : 0 ≤ z ∧ z < w) : ((z.toNat : Nat) : Int) < w := by omega
theorem yb48_w3 {w z : Int} (h : 0 ≤ z ∧ z < w) : z = ((z.toNat : Nat) : Int) := by omega
theorem yb48_w4 {w z : Int} (h : 0 ≤ z ∧ z < w) : z + 0 = ((z.toNat : Nat) : Int) := by omega
theorem yb48_w5 (z : Int) : (0 : Int) ≤ ((z.toNat : Nat) : Int) := by omega
theorem yb48_fu {r r2 : Nat → Int} {b p j : Nat} {u v v2 : Int} {S : Nat → Int} (hf : r2 (b + 64 * j) = (bif decide (u = (j : Int)) then ((0, v) : ycV) else (0, r (b + 64 * j))).2) (hu : u = (p : Int)) (hv : v = v2) (hS : r (b + 64 * j) = S j) : r2 (b + 64 * j) = yb48u S p v2 j := by
  rw [hf]
  unfold yb48u
  by_cases h : j = p
  · rw [if_pos h, decide_eq_true (by omega)]
    exact hv
  · rw [if_neg h, decide_eq_false (by omega)]
    exact hS
theorem xop51 (a b : Int) : xop 51 a b = ycJI 3 a b := rfl
theorem xop40 (a b : Int) : xop 40 a b = ycJ 8 a b := rfl
theorem yb48P_a {w z : Int} (h1 : 1 ≤ w) (h2 : w ≤ 16) (h3 : 0 ≤ z) (h4 : z ≤ 2147483647) : 0 ≤ xop 40 z w ∧ xop 40 z w < w := by
  have m := Nat.mod_lt z.toNat (show w.toNat > 0 by omega)
  rw [xop40, ycJ8 h3 (by omega) h1 (by omega)]
  generalize z.toNat % w.toNat = k at m
  omega
theorem yb48P_b (x : Int) : 0 ≤ xop 51 x 33 ∧ xop 51 x 33 ≤ 2147483647 := by
  rw [xop51]
  exact xivS_s (k := 3) (q := (33, 33)) (x := x) (y := 33) ⟨Int.le_refl _, Int.le_refl _⟩
theorem yb48P_r {w x : Int} (h1 : 1 ≤ w) (h2 : w ≤ 16) : 0 ≤ yb48P w x ∧ yb48P w x < w := by
  unfold yb48P
  exact yb48P_a h1 h2 (yb48P_b _).1 (yb48P_b _).2
/-! both sides: what is shown of their places -/
def yZ0 (_ : Nat → Int) : Prop := True
def yZ1 (y0 : Int) (r : Nat → Int) : Prop := r 1049153 = y0
def yb48C (L : Nat) (xs : Nat → Int32) (Z : (Nat → Int) → Prop) (y0 : Int) (s : xSt) (F : xF) (n q : Nat) : Prop := ∀ (r : Nat → Int) (w x f : Int) (S D : Nat → Int), yzr L xs r → xH r F → Z r → yb48M r w q x f S D → r 1048640 + (n : Int) = 20000 → yq (yb48 w n q x f S) y0 → xGl (yfT (ykold L xs)) r yzP s
def yb48W (L : Nat) (xs : Nat → Int32) (Z : (Nat → Int) → Prop) (y0 : Int) (s : xSt) (F : xF) (n q : Nat) : Prop := ∀ (r : Nat → Int) (w x f : Int) (S D : Nat → Int) (p : Nat), yzr L xs r → xH r F → Z r → yb48M r w q x f S D → r 1048640 + (n : Int) = 20000 → (p : Int) < w → r 1049024 = (p : Int) → r 1048960 ≤ (p : Int) → yq (yb48w w n q x f S p) y0 → xGl (yfT (ykold L xs)) r yzP s
def yb48V (L : Nat) (xs : Nat → Int32) (Z : (Nat → Int) → Prop) (y0 : Int) (s : xSt) (F : xF) (n q : Nat) : Prop := ∀ (r : Nat → Int) (w x f : Int) (S D : Nat → Int) (p : Nat), yzr L xs r → xH r F → Z r → yb48M r w q x f S D → r 1048640 + (n : Int) + 1 = 20000 → (p : Int) < w → r 1049024 + r 1048960 = (p : Int) → yq (yb48w w n q x f S p) y0 → xGl (yfT (ykold L xs)) r yzP s
def yb48K (L : Nat) (xs : Nat → Int32) (Z : (Nat → Int) → Prop) (y0 : Int) (s : xSt) (F : xF) (n : Nat) : Prop := ∀ (r : Nat → Int) (w x f : Int) (S D : Nat → Int), yzr L xs r → xH r F → Z r → yb48M r w 0 x f S D → r 1048640 + (n : Int) = 20000 → (∀ j : Nat, (j : Int) < r 1048960 → S j = -1) → yq (yb48a w n 0 x f S) y0 → xGl (yfT (ykold L xs)) r yzP s
def yb48E (L : Nat) (xs : Nat → Int32) (Z : (Nat → Int) → Prop) (y0 e : Int) (s : xSt) (F : xF) : Prop := y0 = e → ∀ r, yzr L xs r → xH r F → Z r → xGl (yfT (ykold L xs)) r yzP s
theorem yb48_z {L : Nat} {xs : Nat → Int32} {Z : (Nat → Int) → Prop} {y0 : Int} {s : xSt} {F : xF} {q : Nat} (h : xbd F (.var 1048640) 0 19999 = true) : yb48C L xs Z y0 s F 0 q := fun r w x f S D hr H hZ hM hT hy => by
  have a : 0 ≤ r 1048640 ∧ r 1048640 ≤ 19999 := xbd_s H h
  exact absurd hT (by omega)
theorem yb48J_0 {w : Int} : yb48J w 8 (fun _ => -1) (fun _ => 0) := by
  refine ⟨fun p hp => ?_, fun p p2 hp hp2 e n => absurd rfl n, fun p hp n => rfl, fun s hs hs8 => rfl⟩
  show (-1 : Int) ≤ -1 ∧ (-1 : Int) < 8 - ((8 : Nat) : Int)
  omega
theorem yb48_F {L : Nat} {xs : Nat → Int32} {y0 e a b c d : Int} {s : xSt} {F : xF} (hG : y0 = e → yzG L xs s ((.var 384, c, d) :: (.var 320, a, b) :: F)) (h1 : a ≤ yxr L xs 320 ∧ yxr L xs 320 ≤ b) (h2 : c ≤ yxr L xs 384 ∧ yxr L xs 384 ≤ d) : yb48E L xs yZ0 y0 e s F := fun he r hr H _ => by
  have e1 := hr 320 (by decide)
  have e2 := hr 384 (by decide)
  exact hG he r hr (xHc (xHc H (show a ≤ r 320 by omega) (show r 320 ≤ b by omega)) (show c ≤ r 384 by omega) (show r 384 ≤ d by omega))
theorem yb48_d0 (r : Nat → Int) : ∀ s : Nat, s < 8 → s ≠ 0 → (xct r (.branch 0 (.branch 0 (.branch 0 (.branch 0 (.leaf (0, .add (.var 4195394) (.num 1))) (.leaf (10, .num 4195394))) (.leaf (10, .num 4195394))) (.leaf (10, .num 4195394))) (.leaf (10, .num 4195394))) s).2 = r (4195394 + 64 * s) := fun s hs hn => match s, hs, hn with
  | 0, _, hn => absurd rfl hn
  | 1, _, _ => rfl
  | 2, _, _ => rfl
  | 3, _, _ => rfl
  | 4, _, _ => rfl
  | 5, _, _ => rfl
  | 6, _, _ => rfl
  | 7, _, _ => rfl
  | k + 8, hs, _ => absurd hs (by omega)
theorem yb48_d1 (r : Nat → Int) : ∀ s : Nat, s < 8 → s ≠ 1 → (xct r (.branch 0 (.leaf (10, .num 4195394)) (.branch 0 (.branch 0 (.branch 0 (.leaf (0, .add (.var 4195458) (.num 1))) (.leaf (10, .num 4195394))) (.leaf (10, .num 4195394))) (.leaf (10, .num 4195394)))) s).2 = r (4195394 + 64 * s) := fun s hs hn => match s, hs, hn with
  | 0, _, _ => rfl
  | 1, _, hn => absurd rfl hn
  | 2, _, _ => rfl
  | 3, _, _ => rfl
  | 4, _, _ => rfl
  | 5, _, _ => rfl
  | 6, _, _ => rfl
  | 7, _, _ => rfl
  | k + 8, hs, _ => absurd hs (by omega)
theorem yb48_d2 (r : Nat → Int) : ∀ s : Nat, s < 8 → s ≠ 2 → (xct r (.branch 0 (.branch 0 (.leaf (10, .num 4195394)) (.branch 0 (.branch 0 (.leaf (0, .add (.var 4195522) (.num 1))) (.leaf (10, .num 4195394))) (.leaf (10, .num 4195394)))) (.leaf (10, .num 4195394))) s).2 = r (4195394 + 64 * s) := fun s hs hn => match s, hs, hn with
  | 0, _, _ => rfl
  | 1, _, _ => rfl
  | 2, _, hn => absurd rfl hn
  | 3, _, _ => rfl
  | 4, _, _ => rfl
  | 5, _, _ => rfl
  | 6, _, _ => rfl
  | 7, _, _ => rfl
  | k + 8, hs, _ => absurd hs (by omega)
theorem yb48_d3 (r : Nat → Int) : ∀ s : Nat, s < 8 → s ≠ 3 → (xct r (.branch 0 (.leaf (10, .num 4195394)) (.branch 0 (.leaf (10, .num 4195394)) (.branch 0 (.branch 0 (.leaf (0, .add (.var 4195586) (.num 1))) (.leaf (10, .num 4195394))) (.leaf (10, .num 4195394))))) s).2 = r (4195394 + 64 * s) := fun s hs hn => match s, hs, hn with
  | 0, _, _ => rfl
  | 1, _, _ => rfl
  | 2, _, _ => rfl
  | 3, _, hn => absurd rfl hn
  | 4, _, _ => rfl
  | 5, _, _ => rfl
  | 6, _, _ => rfl
  | 7, _, _ => rfl
  | k + 8, hs, _ => absurd hs (by omega)
theorem yb48_d4 (r : Nat → Int) : ∀ s : Nat, s < 8 → s ≠ 4 → (xct r (.branch 0 (.branch 0 (.branch 0 (.leaf (10, .num 4195394)) (.branch 0 (.leaf (0, .add (.var 4195650) (.num 1))) (.leaf (10, .num 4195394)))) (.leaf (10, .num 4195394))) (.leaf (10, .num 4195394))) s).2 = r (4195394 + 64 * s) := fun s hs hn => match s, hs, hn with
  | 0, _, _ => rfl
  | 1, _, _ => rfl
  | 2, _, _ => rfl
  | 3, _, _ => rfl
  | 4, _, hn => absurd rfl hn
  | 5, _, _ => rfl
  | 6, _, _ => rfl
  | 7, _, _ => rfl
  | k + 8, hs, _ => absurd hs (by omega)
theorem yb48_d5 (r : Nat → Int) : ∀ s : Nat, s < 8 → s ≠ 5 → (xct r (.branch 0 (.leaf (10, .num 4195394)) (.branch 0 (.branch 0 (.leaf (10, .num 4195394)) (.branch 0 (.leaf (0, .add (.var 4195714) (.num 1))) (.leaf (10, .num 4195394)))) (.leaf (10, .num 4195394)))) s).2 = r (4195394 + 64 * s) := fun s hs hn => match s, hs, hn with
  | 0, _, _ => rfl
  | 1, _, _ => rfl
  | 2, _, _ => rfl
  | 3, _, _ => rfl
  | 4, _, _ => rfl
  | 5, _, hn => absurd rfl hn
  | 6, _, _ => rfl
  | 7, _, _ => rfl
  | k + 8, hs, _ => absurd hs (by omega)
theorem yb48_d6 (r : Nat → Int) : ∀ s : Nat, s < 8 → s ≠ 6 → (xct r (.branch 0 (.branch 0 (.leaf (10, .num 4195394)) (.branch 0 (.leaf (10, .num 4195394)) (.branch 0 (.leaf (0, .add (.var 4195778) (.num 1))) (.leaf (10, .num 4195394))))) (.leaf (10, .num 4195394))) s).2 = r (4195394 + 64 * s) := fun s hs hn => match s, hs, hn with
  | 0, _, _ => rfl
  | 1, _, _ => rfl
  | 2, _, _ => rfl
  | 3, _, _ => rfl
  | 4, _, _ => rfl
  | 5, _, _ => rfl
  | 6, _, hn => absurd rfl hn
  | 7, _, _ => rfl
  | k + 8, hs, _ => absurd hs (by omega)
theorem yb48_d7 (r : Nat → Int) : ∀ s : Nat, s < 8 → s ≠ 7 → (xct r (.branch 0 (.leaf (10, .num 4195394)) (.branch 0 (.leaf (10, .num 4195394)) (.branch 0 (.leaf (10, .num 4195394)) (.branch 0 (.leaf (0, .add (.var 4195842) (.num 1))) (.leaf (10, .num 4195394)))))) s).2 = r (4195394 + 64 * s) := fun s hs hn => match s, hs, hn with
  | 0, _, _ => rfl
  | 1, _, _ => rfl
  | 2, _, _ => rfl
  | 3, _, _ => rfl
  | 4, _, _ => rfl
  | 5, _, _ => rfl
  | 6, _, _ => rfl
  | 7, _, hn => absurd rfl hn
  | k + 8, hs, _ => absurd hs (by omega)
theorem yb48_d8 (r : Nat → Int) : ∀ s : Nat, s < 8 → s ≠ 0 → (xct r (.branch 0 (.branch 0 (.branch 0 (.branch 0 (.branch 0 (.leaf (0, .add (.var 4195394) (.num 1))) (.leaf (10, .num 4195394))) (.leaf (10, .num 4195394))) (.leaf (10, .num 4195394))) (.leaf (10, .num 4195394))) (.leaf (10, .num 4195394))) s).2 = r (4195394 + 64 * s) := fun s hs hn => match s, hs, hn with
  | 0, _, hn => absurd rfl hn
  | 1, _, _ => rfl
  | 2, _, _ => rfl
  | 3, _, _ => rfl
  | 4, _, _ => rfl
  | 5, _, _ => rfl
  | 6, _, _ => rfl
  | 7, _, _ => rfl
  | k + 8, hs, _ => absurd hs (by omega)
theorem yb48_d9 (r : Nat → Int) : ∀ s : Nat, s < 8 → s ≠ 1 → (xct r (.branch 0 (.leaf (10, .num 4195394)) (.branch 0 (.branch 0 (.branch 0 (.branch 0 (.leaf (0, .add (.var 4195458) (.num 1))) (.leaf (10, .num 4195394))) (.leaf (10, .num 4195394))) (.leaf (10, .num 4195394))) (.leaf (10, .num 4195394)))) s).2 = r (4195394 + 64 * s) := fun s hs hn => match s, hs, hn with
  | 0, _, _ => rfl
  | 1, _, hn => absurd rfl hn
  | 2, _, _ => rfl
  | 3, _, _ => rfl
  | 4, _, _ => rfl
  | 5, _, _ => rfl
  | 6, _, _ => rfl
  | 7, _, _ => rfl
  | k + 8, hs, _ => absurd hs (by omega)
theorem yb48_d10 (r : Nat → Int) : ∀ s : Nat, s < 8 → s ≠ 2 → (xct r (.branch 0 (.branch 0 (.leaf (10, .num 4195394)) (.branch 0 (.branch 0 (.branch 0 (.leaf (0, .add (.var 4195522) (.num 1))) (.leaf (10, .num 4195394))) (.leaf (10, .num 4195394))) (.leaf (10, .num 4195394)))) (.leaf (10, .num 4195394))) s).2 = r (4195394 + 64 * s) := fun s hs hn => match s, hs, hn with
  | 0, _, _ => rfl
  | 1, _, _ => rfl
  | 2, _, hn => absurd rfl hn
  | 3, _, _ => rfl
  | 4, _, _ => rfl
  | 5, _, _ => rfl
  | 6, _, _ => rfl
  | 7, _, _ => rfl
  | k + 8, hs, _ => absurd hs (by omega)
theorem yb48_d11 (r : Nat → Int) : ∀ s : Nat, s < 8 → s ≠ 3 → (xct r (.branch 0 (.leaf (10, .num 4195394)) (.branch 0 (.leaf (10, .num 4195394)) (.branch 0 (.branch 0 (.branch 0 (.leaf (0, .add (.var 4195586) (.num 1))) (.leaf (10, .num 4195394))) (.leaf (10, .num 4195394))) (.leaf (10, .num 4195394))))) s).2 = r (4195394 + 64 * s) := fun s hs hn => match s, hs, hn with
  | 0, _, _ => rfl
  | 1, _, _ => rfl
  | 2, _, _ => rfl
  | 3, _, hn => absurd rfl hn
  | 4, _, _ => rfl
  | 5, _, _ => rfl
  | 6, _, _ => rfl
  | 7, _, _ => rfl
  | k + 8, hs, _ => absurd hs (by omega)
theorem yb48_d12 (r : Nat → Int) : ∀ s : Nat, s < 8 → s ≠ 4 → (xct r (.branch 0 (.branch 0 (.branch 0 (.leaf (10, .num 4195394)) (.branch 0 (.branch 0 (.leaf (0, .add (.var 4195650) (.num 1))) (.leaf (10, .num 4195394))) (.leaf (10, .num 4195394)))) (.leaf (10, .num 4195394))) (.leaf (10, .num 4195394))) s).2 = r (4195394 + 64 * s) := fun s hs hn => match s, hs, hn with
  | 0, _, _ => rfl
  | 1, _, _ => rfl
  | 2, _, _ => rfl
  | 3, _, _ => rfl
  | 4, _, hn => absurd rfl hn
  | 5, _, _ => rfl
  | 6, _, _ => rfl
  | 7, _, _ => rfl
  | k + 8, hs, _ => absurd hs (by omega)
theorem yb48_d13 (r : Nat → Int) : ∀ s : Nat, s < 8 → s ≠ 5 → (xct r (.branch 0 (.leaf (10, .num 4195394)) (.branch 0 (.branch 0 (.leaf (10, .num 4195394)) (.branch 0 (.branch 0 (.leaf (0, .add (.var 4195714) (.num 1))) (.leaf (10, .num 4195394))) (.leaf (10, .num 4195394)))) (.leaf (10, .num 4195394)))) s).2 = r (4195394 + 64 * s) := fun s hs hn => match s, hs, hn with
  | 0, _, _ => rfl
  | 1, _, _ => rfl
  | 2, _, _ => rfl
  | 3, _, _ => rfl
  | 4, _, _ => rfl
  | 5, _, hn => absurd rfl hn
  | 6, _, _ => rfl
  | 7, _, _ => rfl
  | k + 8, hs, _ => absurd hs (by omega)
theorem yb48_d14 (r : Nat → Int) : ∀ s : Nat, s < 8 → s ≠ 6 → (xct r (.branch 0 (.branch 0 (.leaf (10, .num 4195394)) (.branch 0 (.leaf (10, .num 4195394)) (.branch 0 (.branch 0 (.leaf (0, .add (.var 4195778) (.num 1))) (.leaf (10, .num 4195394))) (.leaf (10, .num 4195394))))) (.leaf (10, .num 4195394))) s).2 = r (4195394 + 64 * s) := fun s hs hn => match s, hs, hn with
  | 0, _, _ => rfl
  | 1, _, _ => rfl
  | 2, _, _ => rfl
  | 3, _, _ => rfl
  | 4, _, _ => rfl
  | 5, _, _ => rfl
  | 6, _, hn => absurd rfl hn
  | 7, _, _ => rfl
  | k + 8, hs, _ => absurd hs (by omega)
theorem yb48_d15 (r : Nat → Int) : ∀ s : Nat, s < 8 → s ≠ 7 → (xct r (.branch 0 (.leaf (10, .num 4195394)) (.branch 0 (.leaf (10, .num 4195394)) (.branch 0 (.leaf (10, .num 4195394)) (.branch 0 (.branch 0 (.leaf (0, .add (.var 4195842) (.num 1))) (.leaf (10, .num 4195394))) (.leaf (10, .num 4195394)))))) s).2 = r (4195394 + 64 * s) := fun s hs hn => match s, hs, hn with
  | 0, _, _ => rfl
  | 1, _, _ => rfl
  | 2, _, _ => rfl
  | 3, _, _ => rfl
  | 4, _, _ => rfl
  | 5, _, _ => rfl
  | 6, _, _ => rfl
  | 7, _, hn => absurd rfl hn
  | k + 8, hs, _ => absurd hs (by omega)
theorem yb48_d16 (r : Nat → Int) : ∀ s : Nat, s < 16 → (xct r (.branch 0 (.branch 0 (.branch 0 (.branch 0 (.branch 0 (.leaf (0, .num (-1))) (.leaf (0, .num 0))) (.branch 0 (.leaf (0, .num (-1))) (.leaf (0, .num 0)))) (.branch 0 (.branch 0 (.leaf (0, .num (-1))) (.leaf (0, .num 0))) (.branch 0 (.leaf (0, .num (-1))) (.leaf (0, .num 0))))) (.branch 0 (.branch 0 (.branch 0 (.leaf (0, .num (-1))) (.leaf (0, .num 0))) (.branch 0 (.leaf (0, .num (-1))) (.leaf (0, .num 0)))) (.branch 0 (.branch 0 (.leaf (0, .num (-1))) (.leaf (0, .num 0))) (.branch 0 (.leaf (0, .num (-1))) (.leaf (0, .num 0)))))) (.branch 0 (.branch 0 (.branch 0 (.branch 0 (.leaf (0, .num (-1))) (.leaf (0, .num 0))) (.branch 0 (.leaf (0, .num (-1))) (.leaf (0, .num 0)))) (.branch 0 (.branch 0 (.leaf (0, .num (-1))) (.leaf (0, .num 0))) (.branch 0 (.leaf (0, .num (-1))) (.leaf (0, .num 0))))) (.branch 0 (.branch 0 (.branch 0 (.leaf (0, .num (-1))) (.leaf (0, .num 0))) (.branch 0 (.leaf (0, .num (-1))) (.leaf (0, .num 0)))) (.branch 0 (.branch 0 (.leaf (0, .num (-1))) (.leaf (0, .num 0))) (.branch 0 (.leaf (0, .num (-1))) (.leaf (0, .num 0))))))) s).2 = -1 := fun s hs => match s, hs with
  | 0, _ => rfl
  | 1, _ => rfl
  | 2, _ => rfl
  | 3, _ => rfl
  | 4, _ => rfl
  | 5, _ => rfl
  | 6, _ => rfl
  | 7, _ => rfl
  | 8, _ => rfl
  | 9, _ => rfl
  | 10, _ => rfl
  | 11, _ => rfl
  | 12, _ => rfl
  | 13, _ => rfl
  | 14, _ => rfl
  | 15, _ => rfl
  | k + 16, hs => absurd hs (by omega)
theorem yb48_d17 (r : Nat → Int) : ∀ s : Nat, s < 8 → (xct r (.branch 0 (.branch 0 (.branch 0 (.branch 0 (.leaf (0, .num 0)) (.leaf (0, .num 0))) (.branch 0 (.leaf (0, .num 0)) (.leaf (0, .num 0)))) (.branch 0 (.branch 0 (.leaf (0, .num 0)) (.leaf (0, .num 0))) (.branch 0 (.leaf (0, .num 0)) (.leaf (0, .num 0))))) (.branch 0 (.branch 0 (.branch 0 (.leaf (0, .num 0)) (.leaf (0, .num 0))) (.branch 0 (.leaf (0, .num 0)) (.leaf (0, .num 0)))) (.branch 0 (.branch 0 (.leaf (0, .num 0)) (.leaf (0, .num 0))) (.branch 0 (.leaf (0, .num 0)) (.leaf (0, .num 0)))))) s).2 = 0 := fun s hs => match s, hs with
  | 0, _ => rfl
  | 1, _ => rfl
  | 2, _ => rfl
  | 3, _ => rfl
  | 4, _ => rfl
  | 5, _ => rfl
  | 6, _ => rfl
  | 7, _ => rfl
  | k + 8, hs => absurd hs (by omega)
theorem xden_op (r : Nat → Int) (a b : xjE) (k : Nat) : xden r (.pow (.add a b) k) = xop k (xden r a) (xden r b) := rfl
theorem xden_num (r : Nat → Int) (k : Int) : xden r (.num k) = k := rfl
theorem xden_var (r : Nat → Int) (k : Nat) : xden r (.var k) = r k := rfl
theorem xden_sub (r : Nat → Int) (a b : xjE) : xden r (.sub a b) = xden r a - xden r b := rfl
theorem yb48X_d (r : Nat → Int) : xden r (.pow (.add (.pow (.add (.var 1048577) (.num 6364136223846793005)) 38) (.num 1442695040888963407)) 36) = yb48X (r 1048577) := by
  unfold yb48X
  rw [xden_op, xden_op, xden_var, xden_num, xden_num]
theorem yb48P_d (r : Nat → Int) : xden r (.pow (.add (.pow (.add (.pow (.add (.pow (.add (.var 1048577) (.num 6364136223846793005)) 38) (.num 1442695040888963407)) 36) (.num 33)) 51) (.var 128)) 40) = yb48P (r 128) (r 1048577) := by
  unfold yb48P
  rw [xden_op, xden_op, yb48X_d, xden_num, xden_var]
theorem yb48x_d (r : Nat → Int) : xden r (.pow (.add (.pow (.add (.var 192) (.num 32)) 49) (.pow (.add (.var 256) (.num 4294967295)) 33)) 34) = xop 34 (xop 49 (r 192) ((32 : Int))) (xop 33 (r 256) ((4294967295 : Int))) := by
  simp only [xden_op, xden_num, xden_var]
theorem y48_C0 {L : Nat} {xs : Nat → Int32} (hL : L ≤ 3584) {y0 : Int} {n : Nat} (hW : yb48W L xs yZ0 y0 yt48_W0 yF48_W0 n 0) : yb48C L xs yZ0 y0 yt48_C0 yF48_C0 (n + 1) 0 := by
  intro r w x f S D hr H hZ hM hT hy
  obtain ⟨m1, m2, m3, m4, m5, m6⟩ := hM
  have hw : 1 ≤ r 128 ∧ r 128 ≤ 16 := xbd_s H (e := .var 128) (lo := 1) (hi := 16) (by decide +kernel)
  have hw2 : 1 ≤ w ∧ w ≤ 16 := by omega
  have H1 := xHc (e := .sub (.var 128) (.pow (.add (.pow (.add (.pow (.add (.pow (.add (.var 1048577) (.num 6364136223846793005)) 38) (.num 1442695040888963407)) 36) (.num 33)) 51) (.var 128)) 40)) (lo := 1) (hi := 16) H (by rw [xden_sub, xden_var, yb48P_d, m1, m2]; exact (yb48_w1 (yb48P_r hw2.1 hw2.2) hw2.2).1) (by rw [xden_sub, xden_var, yb48P_d, m1, m2]; exact (yb48_w1 (yb48P_r hw2.1 hw2.2) hw2.2).2)
  refine yz_run hL yq48_C0 hr H1 (xcut_s fun c hc r2 G2 hR => ?_)
  have hr2 : yzr L xs r2 := fun i hi => by rw [hR.2.2.2 i hi]; exact hr i hi
  have aw : r2 128 = w := (hR.2.2.2 128 (by decide)).trans m1
  rw [List.mem_singleton] at hc
  subst hc
  have a1048960 : r2 1048960 = (0 : Int) := yas hR (List.mem_cons_of_mem _ (List.mem_cons_of_mem _ List.mem_cons_self))
  have a1048640 : r2 1048640 = (r 1048640 + (1 : Int)) := yas hR (List.mem_cons_of_mem _ (List.mem_cons_of_mem _ (List.mem_cons_of_mem _ List.mem_cons_self)))
  have a1048704 : r2 1048704 = r 1048704 := yas hR (List.mem_cons_of_mem _ (List.mem_cons_of_mem _ (List.mem_cons_of_mem _ (List.mem_cons_of_mem _ List.mem_cons_self))))
  have fS : ∀ j : Nat, j < 16 → r2 (4194310 + 64 * j) = r (4194310 + 64 * j) := fun j hj => hR.2.1 _ List.mem_cons_self (4194310, 16, 217) List.mem_cons_self rfl j hj
  have fD : ∀ j : Nat, j < 8 → r2 (4195394 + 64 * j) = r (4195394 + 64 * j) := fun j hj => hR.2.1 _ (List.mem_cons_of_mem _ List.mem_cons_self) (4195394, 8, 207) (List.mem_cons_of_mem _ List.mem_cons_self) rfl j hj
  have o1 := hT
  have gS : ∀ k : Nat, (k : Int) < w → r2 (4194310 + 64 * k) = S k := fun k hk => (fS k (by omega)).trans (m4 k hk)
  have gD : ∀ s : Nat, s < 8 → r2 (4195394 + 64 * s) = D s := fun s hs => (fD s (by omega)).trans (m5 s hs)
  have gT : r2 1048640 + (n : Int) = 20000 := by omega
  have a1048577 : r2 1048577 = yb48X (r 1048577) := (yas hR List.mem_cons_self).trans (yb48X_d r)
  have a1049024 : r2 1049024 = yb48P (r 128) (r 1048577) := (yas hR (List.mem_cons_of_mem _ List.mem_cons_self)).trans (yb48P_d r)
  exact hW r2 w (yb48X x) f S D (yb48P w x).toNat hr2 G2 trivial ⟨aw, by rw [a1048577, m2], a1048704.trans m3, gS, gD, m6⟩ gT (yb48_w2 (yb48P_r hw2.1 hw2.2)) (by rw [a1049024, m1, m2]; exact yb48_w3 (yb48P_r hw2.1 hw2.2)) (by rw [a1048960]; exact yb48_w5 _) (yb48_t hy)
theorem y48_W0 {L : Nat} {xs : Nat → Int32} (hL : L ≤ 3584) {y0 : Int} {n : Nat} (hK : yb48K L xs yZ0 y0 yt48_K yF48_K n) (hE0 : yb48E L xs yZ0 y0 (0) yt48_E0 yF48_E0) (hE3 : yb48E L xs yZ0 y0 (-3) yt48_E3 yF48_E3) : yb48W L xs yZ0 y0 yt48_W0 yF48_W0 n 0 := by
  intro r w x f S D p hr H hZ hM hT hp hP hU hy
  suffices main : ∀ d : Nat, ∀ r, yzr L xs r → xH r yF48_W0 → yZ0 r → yb48M r w 0 x f S D → r 1048640 + (n : Int) = 20000 → r 1049024 = (p : Int) → r 1048960 ≤ (p : Int) → (p : Int) - r 1048960 < (d : Int) → xGl (yfT (ykold L xs)) r yzP yt48_W0 from
    main (p + 1) r hr H hZ hM hT hP hU (by
      have hu : 0 ≤ r 1048960 ∧ r 1048960 ≤ 15 := xbd_s H (e := .var 1048960) (lo := 0) (hi := 15) (by decide +kernel)
      omega)
  intro d
  induction d with
  | zero =>
    intro r hr H hZ hM hT hP hU hd
    omega
  | succ d ih =>
    intro r hr H hZ hM hT hP hU hd
    obtain ⟨m1, m2, m3, m4, m5, m6⟩ := hM
    have hw : 1 ≤ r 128 ∧ r 128 ≤ 16 := xbd_s H (e := .var 128) (lo := 1) (hi := 16) (by decide +kernel)
    have hu : 0 ≤ r 1048960 ∧ r 1048960 ≤ 15 := xbd_s H (e := .var 1048960) (lo := 0) (hi := 15) (by decide +kernel)
    have hf : 0 ≤ r 1048704 ∧ r 1048704 ≤ 7 := xbd_s H (e := .var 1048704) (lo := 0) (hi := 7) (by decide +kernel)
    by_cases hup : r 1048960 = (p : Int)
    · have es : r (4194310 + 64 * (r 1048960).toNat) = S p := by
        have e0 : (r 1048960).toNat = p := by omega
        rw [e0]
        exact m4 p hp
      have j1 := m6.1 p hp
      have e : S p = -1 ∨ S p = 0 ∨ S p = 1 ∨ S p = 2 ∨ S p = 3 ∨ S p = 4 ∨ S p = 5 ∨ S p = 6 ∨ S p = 7 := by omega
      rcases e with e | e | e | e | e | e | e | e | e
      · have hv := yb48w_z hy e
        have H1 := xHc (e := .sub (.var 128) (.var 1048960)) (lo := 1) (hi := 16) H (show (1 : Int) ≤ (r 128 - r 1048960) by omega) (show (r 128 - r 1048960) ≤ (16 : Int) by omega)
        have H2 := xHc (e := .sub (.var 1048960) (.var 1049024)) (lo := 0) (hi := 0) H1 (show (0 : Int) ≤ (r 1048960 - r 1049024) by omega) (show (r 1048960 - r 1049024) ≤ (0 : Int) by omega)
        have H3 := xHc (e := .pow (.sub (.num 4194310) (.var 1048960)) 0) (lo := -1) (hi := -1) H2 (show (-1 : Int) ≤ r (4194310 + 64 * (r 1048960).toNat) by omega) (show r (4194310 + 64 * (r 1048960).toNat) ≤ (-1 : Int) by omega)
        refine yz_run hL yq48_W0t hr H3 (xcut_s fun c hc r2 G2 hR => ?_)
        have hr2 : yzr L xs r2 := fun i hi => by rw [hR.2.2.2 i hi]; exact hr i hi
        have aw : r2 128 = w := (hR.2.2.2 128 (by decide)).trans m1
        rw [List.mem_singleton] at hc
        subst hc
        have a1048577 : r2 1048577 = r 1048577 := yas hR List.mem_cons_self
        have a1048960 : r2 1048960 = (0 : Int) := yas hR (List.mem_cons_of_mem _ List.mem_cons_self)
        have a1048640 : r2 1048640 = r 1048640 := yas hR (List.mem_cons_of_mem _ (List.mem_cons_of_mem _ List.mem_cons_self))
        have a1048704 : r2 1048704 = r 1048704 := yas hR (List.mem_cons_of_mem _ (List.mem_cons_of_mem _ (List.mem_cons_of_mem _ List.mem_cons_self)))
        have fS : ∀ j : Nat, j < 16 → r2 (4194310 + 64 * j) = r (4194310 + 64 * j) := fun j hj => hR.2.1 _ List.mem_cons_self (4194310, 16, 217) List.mem_cons_self rfl j hj
        have fD : ∀ j : Nat, j < 8 → r2 (4195394 + 64 * j) = r (4195394 + 64 * j) := fun j hj => hR.2.1 _ (List.mem_cons_of_mem _ List.mem_cons_self) (4195394, 8, 207) (List.mem_cons_of_mem _ List.mem_cons_self) rfl j hj
        exact hK r2 w x f S D hr2 G2 trivial ⟨aw, a1048577.trans m2, a1048704.trans m3, fun k hk => (fS k (by omega)).trans (m4 k hk), fun s hs => (fD s (by omega)).trans (m5 s hs), m6⟩ (by omega) (fun j hj => absurd hj (by omega)) hv
      · have hv := yb48w_s hy (by omega)
        have ed : r 4195394 = 0 := (m5 0 (by decide)).trans (by
          have z := m6.2.2.1 p hp (by omega)
          rw [e] at z
          exact z)
        have H1 := xHc (e := .sub (.var 128) (.var 1048960)) (lo := 1) (hi := 16) H (show (1 : Int) ≤ (r 128 - r 1048960) by omega) (show (r 128 - r 1048960) ≤ (16 : Int) by omega)
        have H2 := xHc (e := .sub (.var 1048960) (.var 1049024)) (lo := 0) (hi := 0) H1 (show (0 : Int) ≤ (r 1048960 - r 1049024) by omega) (show (r 1048960 - r 1049024) ≤ (0 : Int) by omega)
        have H3 := xHc (e := .pow (.sub (.num 4194310) (.var 1048960)) 0) (lo := 0) (hi := 0) H2 (show (0 : Int) ≤ r (4194310 + 64 * (r 1048960).toNat) by omega) (show r (4194310 + 64 * (r 1048960).toNat) ≤ (0 : Int) by omega)
        have H4 := xHc (e := .var 4195394) (lo := 0) (hi := 0) H3 (show (0 : Int) ≤ r 4195394 by omega) (show r 4195394 ≤ (0 : Int) by omega)
        refine yz_run hL yq48_W0s0 hr H4 (xcut_s fun c hc r2 G2 hR => ?_)
        have hr2 : yzr L xs r2 := fun i hi => by rw [hR.2.2.2 i hi]; exact hr i hi
        have aw : r2 128 = w := (hR.2.2.2 128 (by decide)).trans m1
        simp only [List.mem_cons, List.not_mem_nil, or_false] at hc
        rcases hc with rfl | rfl
        · have a1048640 : r2 1048640 = r 1048640 := yas hR List.mem_cons_self
          have a1048704 : r2 1048704 = (r 1048704 + (1 : Int)) := yas hR (List.mem_cons_of_mem _ List.mem_cons_self)
          have fS : ∀ j : Nat, j < 16 → r2 (4194310 + 64 * j) = (bif decide (r 1048960 = (j : Int)) then ((0, -1) : ycV) else (0, r (4194310 + 64 * j))).2 := fun j hj => hR.2.1 _ List.mem_cons_self (4194310, 16, 217) List.mem_cons_self rfl j hj
          have fD : ∀ j : Nat, j < 8 → r2 (4195394 + 64 * j) = (xct r (.branch 0 (.branch 0 (.branch 0 (.branch 0 (.leaf (0, .add (.var 4195394) (.num 1))) (.leaf (10, .num 4195394))) (.leaf (10, .num 4195394))) (.leaf (10, .num 4195394))) (.leaf (10, .num 4195394))) j).2 := fun j hj => hR.2.1 _ (List.mem_cons_of_mem _ List.mem_cons_self) (4195394, 8, 207) (List.mem_cons_of_mem _ List.mem_cons_self) rfl j hj
          have fD2 : ∀ s : Nat, s < 8 → s ≠ (S p).toNat → r2 (4195394 + 64 * s) = D s := fun s hs hn => ((fD s (by omega)).trans (yb48_d0 r s hs (by omega))).trans (m5 s hs)
          have t0 : (7 : Int) ≤ r 1048704 ∧ r 1048704 ≤ (7 : Int) := hR.2.2.1 _ List.mem_cons_self
          exact hE0 (yb48a_e hv (by omega)) r2 hr2 G2 trivial
        · have a1048577 : r2 1048577 = r 1048577 := yas hR List.mem_cons_self
          have a1048960 : r2 1048960 = (0 : Int) := yas hR (List.mem_cons_of_mem _ List.mem_cons_self)
          have a1048640 : r2 1048640 = r 1048640 := yas hR (List.mem_cons_of_mem _ (List.mem_cons_of_mem _ List.mem_cons_self))
          have a1048704 : r2 1048704 = (r 1048704 + (1 : Int)) := yas hR (List.mem_cons_of_mem _ (List.mem_cons_of_mem _ (List.mem_cons_of_mem _ List.mem_cons_self)))
          have fS : ∀ j : Nat, j < 16 → r2 (4194310 + 64 * j) = (bif decide (r 1048960 = (j : Int)) then ((0, -1) : ycV) else (0, r (4194310 + 64 * j))).2 := fun j hj => hR.2.1 _ List.mem_cons_self (4194310, 16, 217) List.mem_cons_self rfl j hj
          have fD : ∀ j : Nat, j < 8 → r2 (4195394 + 64 * j) = (xct r (.branch 0 (.branch 0 (.branch 0 (.branch 0 (.leaf (0, .add (.var 4195394) (.num 1))) (.leaf (10, .num 4195394))) (.leaf (10, .num 4195394))) (.leaf (10, .num 4195394))) (.leaf (10, .num 4195394))) j).2 := fun j hj => hR.2.1 _ (List.mem_cons_of_mem _ List.mem_cons_self) (4195394, 8, 207) (List.mem_cons_of_mem _ List.mem_cons_self) rfl j hj
          have fD2 : ∀ s : Nat, s < 8 → s ≠ (S p).toNat → r2 (4195394 + 64 * s) = D s := fun s hs hn => ((fD s (by omega)).trans (yb48_d0 r s hs (by omega))).trans (m5 s hs)
          have t0 : (0 : Int) ≤ r 1048704 ∧ r 1048704 ≤ (6 : Int) := hR.2.2.1 _ List.mem_cons_self
          exact hK r2 w x (f + 1) (yb48u S p (-1)) (fun s => r2 (4195394 + 64 * s)) hr2 G2 trivial ⟨aw, a1048577.trans m2, by omega, fun k hk => yb48_fu (fS k (by omega)) hup rfl (m4 k hk), fun _ _ => rfl, yb48J_step m6 hp (by omega) fD2 (by decide)⟩ (by omega) (fun j hj => absurd hj (by omega)) hv
      · have hv := yb48w_s hy (by omega)
        have ed : r 4195458 = 0 := (m5 1 (by decide)).trans (by
          have z := m6.2.2.1 p hp (by omega)
          rw [e] at z
          exact z)
        have H1 := xHc (e := .sub (.var 128) (.var 1048960)) (lo := 1) (hi := 16) H (show (1 : Int) ≤ (r 128 - r 1048960) by omega) (show (r 128 - r 1048960) ≤ (16 : Int) by omega)
        have H2 := xHc (e := .sub (.var 1048960) (.var 1049024)) (lo := 0) (hi := 0) H1 (show (0 : Int) ≤ (r 1048960 - r 1049024) by omega) (show (r 1048960 - r 1049024) ≤ (0 : Int) by omega)
        have H3 := xHc (e := .pow (.sub (.num 4194310) (.var 1048960)) 0) (lo := 1) (hi := 1) H2 (show (1 : Int) ≤ r (4194310 + 64 * (r 1048960).toNat) by omega) (show r (4194310 + 64 * (r 1048960).toNat) ≤ (1 : Int) by omega)
        have H4 := xHc (e := .var 4195458) (lo := 0) (hi := 0) H3 (show (0 : Int) ≤ r 4195458 by omega) (show r 4195458 ≤ (0 : Int) by omega)
        refine yz_run hL yq48_W0s1 hr H4 (xcut_s fun c hc r2 G2 hR => ?_)
        have hr2 : yzr L xs r2 := fun i hi => by rw [hR.2.2.2 i hi]; exact hr i hi
        have aw : r2 128 = w := (hR.2.2.2 128 (by decide)).trans m1
        simp only [List.mem_cons, List.not_mem_nil, or_false] at hc
        rcases hc with rfl | rfl
        · have a1048640 : r2 1048640 = r 1048640 := yas hR List.mem_cons_self
          have a1048704 : r2 1048704 = (r 1048704 + (1 : Int)) := yas hR (List.mem_cons_of_mem _ List.mem_cons_self)
          have fS : ∀ j : Nat, j < 16 → r2 (4194310 + 64 * j) = (bif decide (r 1048960 = (j : Int)) then ((0, -1) : ycV) else (0, r (4194310 + 64 * j))).2 := fun j hj => hR.2.1 _ List.mem_cons_self (4194310, 16, 217) List.mem_cons_self rfl j hj
          have fD : ∀ j : Nat, j < 8 → r2 (4195394 + 64 * j) = (xct r (.branch 0 (.leaf (10, .num 4195394)) (.branch 0 (.branch 0 (.branch 0 (.leaf (0, .add (.var 4195458) (.num 1))) (.leaf (10, .num 4195394))) (.leaf (10, .num 4195394))) (.leaf (10, .num 4195394)))) j).2 := fun j hj => hR.2.1 _ (List.mem_cons_of_mem _ List.mem_cons_self) (4195394, 8, 207) (List.mem_cons_of_mem _ List.mem_cons_self) rfl j hj
          have fD2 : ∀ s : Nat, s < 8 → s ≠ (S p).toNat → r2 (4195394 + 64 * s) = D s := fun s hs hn => ((fD s (by omega)).trans (yb48_d1 r s hs (by omega))).trans (m5 s hs)
          have t0 : (7 : Int) ≤ r 1048704 ∧ r 1048704 ≤ (7 : Int) := hR.2.2.1 _ List.mem_cons_self
          exact hE0 (yb48a_e hv (by omega)) r2 hr2 G2 trivial
        · have a1048577 : r2 1048577 = r 1048577 := yas hR List.mem_cons_self
          have a1048960 : r2 1048960 = (0 : Int) := yas hR (List.mem_cons_of_mem _ List.mem_cons_self)
          have a1048640 : r2 1048640 = r 1048640 := yas hR (List.mem_cons_of_mem _ (List.mem_cons_of_mem _ List.mem_cons_self))
          have a1048704 : r2 1048704 = (r 1048704 + (1 : Int)) := yas hR (List.mem_cons_of_mem _ (List.mem_cons_of_mem _ (List.mem_cons_of_mem _ List.mem_cons_self)))
          have fS : ∀ j : Nat, j < 16 → r2 (4194310 + 64 * j) = (bif decide (r 1048960 = (j : Int)) then ((0, -1) : ycV) else (0, r (4194310 + 64 * j))).2 := fun j hj => hR.2.1 _ List.mem_cons_self (4194310, 16, 217) List.mem_cons_self rfl j hj
          have fD : ∀ j : Nat, j < 8 → r2 (4195394 + 64 * j) = (xct r (.branch 0 (.leaf (10, .num 4195394)) (.branch 0 (.branch 0 (.branch 0 (.leaf (0, .add (.var 4195458) (.num 1))) (.leaf (10, .num 4195394))) (.leaf (10, .num 4195394))) (.leaf (10, .num 4195394)))) j).2 := fun j hj => hR.2.1 _ (List.mem_cons_of_mem _ List.mem_cons_self) (4195394, 8, 207) (List.mem_cons_of_mem _ List.mem_cons_self) rfl j hj
          have fD2 : ∀ s : Nat, s < 8 → s ≠ (S p).toNat → r2 (4195394 + 64 * s) = D s := fun s hs hn => ((fD s (by omega)).trans (yb48_d1 r s hs (by omega))).trans (m5 s hs)
          have t0 : (0 : Int) ≤ r 1048704 ∧ r 1048704 ≤ (6 : Int) := hR.2.2.1 _ List.mem_cons_self
          exact hK r2 w x (f + 1) (yb48u S p (-1)) (fun s => r2 (4195394 + 64 * s)) hr2 G2 trivial ⟨aw, a1048577.trans m2, by omega, fun k hk => yb48_fu (fS k (by omega)) hup rfl (m4 k hk), fun _ _ => rfl, yb48J_step m6 hp (by omega) fD2 (by decide)⟩ (by omega) (fun j hj => absurd hj (by omega)) hv
      · have hv := yb48w_s hy (by omega)
        have ed : r 4195522 = 0 := (m5 2 (by decide)).trans (by
          have z := m6.2.2.1 p hp (by omega)
          rw [e] at z
          exact z)
        have H1 := xHc (e := .sub (.var 128) (.var 1048960)) (lo := 1) (hi := 16) H (show (1 : Int) ≤ (r 128 - r 1048960) by omega) (show (r 128 - r 1048960) ≤ (16 : Int) by omega)
        have H2 := xHc (e := .sub (.var 1048960) (.var 1049024)) (lo := 0) (hi := 0) H1 (show (0 : Int) ≤ (r 1048960 - r 1049024) by omega) (show (r 1048960 - r 1049024) ≤ (0 : Int) by omega)
        have H3 := xHc (e := .pow (.sub (.num 4194310) (.var 1048960)) 0) (lo := 2) (hi := 2) H2 (show (2 : Int) ≤ r (4194310 + 64 * (r 1048960).toNat) by omega) (show r (4194310 + 64 * (r 1048960).toNat) ≤ (2 : Int) by omega)
        have H4 := xHc (e := .var 4195522) (lo := 0) (hi := 0) H3 (show (0 : Int) ≤ r 4195522 by omega) (show r 4195522 ≤ (0 : Int) by omega)
        refine yz_run hL yq48_W0s2 hr H4 (xcut_s fun c hc r2 G2 hR => ?_)
        have hr2 : yzr L xs r2 := fun i hi => by rw [hR.2.2.2 i hi]; exact hr i hi
        have aw : r2 128 = w := (hR.2.2.2 128 (by decide)).trans m1
        simp only [List.mem_cons, List.not_mem_nil, or_false] at hc
        rcases hc with rfl | rfl
        · have a1048640 : r2 1048640 = r 1048640 := yas hR List.mem_cons_self
          have a1048704 : r2 1048704 = (r 1048704 + (1 : Int)) := yas hR (List.mem_cons_of_mem _ List.mem_cons_self)
          have fS : ∀ j : Nat, j < 16 → r2 (4194310 + 64 * j) = (bif decide (r 1048960 = (j : Int)) then ((0, -1) : ycV) else (0, r (4194310 + 64 * j))).2 := fun j hj => hR.2.1 _ List.mem_cons_self (4194310, 16, 217) List.mem_cons_self rfl j hj
          have fD : ∀ j : Nat, j < 8 → r2 (4195394 + 64 * j) = (xct r (.branch 0 (.branch 0 (.leaf (10, .num 4195394)) (.branch 0 (.branch 0 (.leaf (0, .add (.var 4195522) (.num 1))) (.leaf (10, .num 4195394))) (.leaf (10, .num 4195394)))) (.leaf (10, .num 4195394))) j).2 := fun j hj => hR.2.1 _ (List.mem_cons_of_mem _ List.mem_cons_self) (4195394, 8, 207) (List.mem_cons_of_mem _ List.mem_cons_self) rfl j hj
          have fD2 : ∀ s : Nat, s < 8 → s ≠ (S p).toNat → r2 (4195394 + 64 * s) = D s := fun s hs hn => ((fD s (by omega)).trans (yb48_d2 r s hs (by omega))).trans (m5 s hs)
          have t0 : (7 : Int) ≤ r 1048704 ∧ r 1048704 ≤ (7 : Int) := hR.2.2.1 _ List.mem_cons_self
          exact hE0 (yb48a_e hv (by omega)) r2 hr2 G2 trivial
        · have a1048577 : r2 1048577 = r 1048577 := yas hR List.mem_cons_self
          have a1048960 : r2 1048960 = (0 : Int) := yas hR (List.mem_cons_of_mem _ List.mem_cons_self)
          have a1048640 : r2 1048640 = r 1048640 := yas hR (List.mem_cons_of_mem _ (List.mem_cons_of_mem _ List.mem_cons_self))
          have a1048704 : r2 1048704 = (r 1048704 + (1 : Int)) := yas hR (List.mem_cons_of_mem _ (List.mem_cons_of_mem _ (List.mem_cons_of_mem _ List.mem_cons_self)))
          have fS : ∀ j : Nat, j < 16 → r2 (4194310 + 64 * j) = (bif decide (r 1048960 = (j : Int)) then ((0, -1) : ycV) else (0, r (4194310 + 64 * j))).2 := fun j hj => hR.2.1 _ List.mem_cons_self (4194310, 16, 217) List.mem_cons_self rfl j hj
          have fD : ∀ j : Nat, j < 8 → r2 (4195394 + 64 * j) = (xct r (.branch 0 (.branch 0 (.leaf (10, .num 4195394)) (.branch 0 (.branch 0 (.leaf (0, .add (.var 4195522) (.num 1))) (.leaf (10, .num 4195394))) (.leaf (10, .num 4195394)))) (.leaf (10, .num 4195394))) j).2 := fun j hj => hR.2.1 _ (List.mem_cons_of_mem _ List.mem_cons_self) (4195394, 8, 207) (List.mem_cons_of_mem _ List.mem_cons_self) rfl j hj
          have fD2 : ∀ s : Nat, s < 8 → s ≠ (S p).toNat → r2 (4195394 + 64 * s) = D s := fun s hs hn => ((fD s (by omega)).trans (yb48_d2 r s hs (by omega))).trans (m5 s hs)
          have t0 : (0 : Int) ≤ r 1048704 ∧ r 1048704 ≤ (6 : Int) := hR.2.2.1 _ List.mem_cons_self
          exact hK r2 w x (f + 1) (yb48u S p (-1)) (fun s => r2 (4195394 + 64 * s)) hr2 G2 trivial ⟨aw, a1048577.trans m2, by omega, fun k hk => yb48_fu (fS k (by omega)) hup rfl (m4 k hk), fun _ _ => rfl, yb48J_step m6 hp (by omega) fD2 (by decide)⟩ (by omega) (fun j hj => absurd hj (by omega)) hv
      · have hv := yb48w_s hy (by omega)
        have ed : r 4195586 = 0 := (m5 3 (by decide)).trans (by
          have z := m6.2.2.1 p hp (by omega)
          rw [e] at z
          exact z)
        have H1 := xHc (e := .sub (.var 128) (.var 1048960)) (lo := 1) (hi := 16) H (show (1 : Int) ≤ (r 128 - r 1048960) by omega) (show (r 128 - r 1048960) ≤ (16 : Int) by omega)
        have H2 := xHc (e := .sub (.var 1048960) (.var 1049024)) (lo := 0) (hi := 0) H1 (show (0 : Int) ≤ (r 1048960 - r 1049024) by omega) (show (r 1048960 - r 1049024) ≤ (0 : Int) by omega)
        have H3 := xHc (e := .pow (.sub (.num 4194310) (.var 1048960)) 0) (lo := 3) (hi := 3) H2 (show (3 : Int) ≤ r (4194310 + 64 * (r 1048960).toNat) by omega) (show r (4194310 + 64 * (r 1048960).toNat) ≤ (3 : Int) by omega)
        have H4 := xHc (e := .var 4195586) (lo := 0) (hi := 0) H3 (show (0 : Int) ≤ r 4195586 by omega) (show r 4195586 ≤ (0 : Int) by omega)
        refine yz_run hL yq48_W0s3 hr H4 (xcut_s fun c hc r2 G2 hR => ?_)
        have hr2 : yzr L xs r2 := fun i hi => by rw [hR.2.2.2 i hi]; exact hr i hi
        have aw : r2 128 = w := (hR.2.2.2 128 (by decide)).trans m1
        simp only [List.mem_cons, List.not_mem_nil, or_false] at hc
        rcases hc with rfl | rfl
        · have a1048640 : r2 1048640 = r 1048640 := yas hR List.mem_cons_self
          have a1048704 : r2 1048704 = (r 1048704 + (1 : Int)) := yas hR (List.mem_cons_of_mem _ List.mem_cons_self)
          have fS : ∀ j : Nat, j < 16 → r2 (4194310 + 64 * j) = (bif decide (r 1048960 = (j : Int)) then ((0, -1) : ycV) else (0, r (4194310 + 64 * j))).2 := fun j hj => hR.2.1 _ List.mem_cons_self (4194310, 16, 217) List.mem_cons_self rfl j hj
          have fD : ∀ j : Nat, j < 8 → r2 (4195394 + 64 * j) = (xct r (.branch 0 (.leaf (10, .num 4195394)) (.branch 0 (.leaf (10, .num 4195394)) (.branch 0 (.branch 0 (.leaf (0, .add (.var 4195586) (.num 1))) (.leaf (10, .num 4195394))) (.leaf (10, .num 4195394))))) j).2 := fun j hj => hR.2.1 _ (List.mem_cons_of_mem _ List.mem_cons_self) (4195394, 8, 207) (List.mem_cons_of_mem _ List.mem_cons_self) rfl j hj
          have fD2 : ∀ s : Nat, s < 8 → s ≠ (S p).toNat → r2 (4195394 + 64 * s) = D s := fun s hs hn => ((fD s (by omega)).trans (yb48_d3 r s hs (by omega))).trans (m5 s hs)
          have t0 : (7 : Int) ≤ r 1048704 ∧ r 1048704 ≤ (7 : Int) := hR.2.2.1 _ List.mem_cons_self
          exact hE0 (yb48a_e hv (by omega)) r2 hr2 G2 trivial
        · have a1048577 : r2 1048577 = r 1048577 := yas hR List.mem_cons_self
          have a1048960 : r2 1048960 = (0 : Int) := yas hR (List.mem_cons_of_mem _ List.mem_cons_self)
          have a1048640 : r2 1048640 = r 1048640 := yas hR (List.mem_cons_of_mem _ (List.mem_cons_of_mem _ List.mem_cons_self))
          have a1048704 : r2 1048704 = (r 1048704 + (1 : Int)) := yas hR (List.mem_cons_of_mem _ (List.mem_cons_of_mem _ (List.mem_cons_of_mem _ List.mem_cons_self)))
          have fS : ∀ j : Nat, j < 16 → r2 (4194310 + 64 * j) = (bif decide (r 1048960 = (j : Int)) then ((0, -1) : ycV) else (0, r (4194310 + 64 * j))).2 := fun j hj => hR.2.1 _ List.mem_cons_self (4194310, 16, 217) List.mem_cons_self rfl j hj
          have fD : ∀ j : Nat, j < 8 → r2 (4195394 + 64 * j) = (xct r (.branch 0 (.leaf (10, .num 4195394)) (.branch 0 (.leaf (10, .num 4195394)) (.branch 0 (.branch 0 (.leaf (0, .add (.var 4195586) (.num 1))) (.leaf (10, .num 4195394))) (.leaf (10, .num 4195394))))) j).2 := fun j hj => hR.2.1 _ (List.mem_cons_of_mem _ List.mem_cons_self) (4195394, 8, 207) (List.mem_cons_of_mem _ List.mem_cons_self) rfl j hj
          have fD2 : ∀ s : Nat, s < 8 → s ≠ (S p).toNat → r2 (4195394 + 64 * s) = D s := fun s hs hn => ((fD s (by omega)).trans (yb48_d3 r s hs (by omega))).trans (m5 s hs)
          have t0 : (0 : Int) ≤ r 1048704 ∧ r 1048704 ≤ (6 : Int) := hR.2.2.1 _ List.mem_cons_self
          exact hK r2 w x (f + 1) (yb48u S p (-1)) (fun s => r2 (4195394 + 64 * s)) hr2 G2 trivial ⟨aw, a1048577.trans m2, by omega, fun k hk => yb48_fu (fS k (by omega)) hup rfl (m4 k hk), fun _ _ => rfl, yb48J_step m6 hp (by omega) fD2 (by decide)⟩ (by omega) (fun j hj => absurd hj (by omega)) hv
      · have hv := yb48w_s hy (by omega)
        have ed : r 4195650 = 0 := (m5 4 (by decide)).trans (by
          have z := m6.2.2.1 p hp (by omega)
          rw [e] at z
          exact z)
        have H1 := xHc (e := .sub (.var 128) (.var 1048960)) (lo := 1) (hi := 16) H (show (1 : Int) ≤ (r 128 - r 1048960) by omega) (show (r 128 - r 1048960) ≤ (16 : Int) by omega)
        have H2 := xHc (e := .sub (.var 1048960) (.var 1049024)) (lo := 0) (hi := 0) H1 (show (0 : Int) ≤ (r 1048960 - r 1049024) by omega) (show (r 1048960 - r 1049024) ≤ (0 : Int) by omega)
        have H3 := xHc (e := .pow (.sub (.num 4194310) (.var 1048960)) 0) (lo := 4) (hi := 4) H2 (show (4 : Int) ≤ r (4194310 + 64 * (r 1048960).toNat) by omega) (show r (4194310 + 64 * (r 1048960).toNat) ≤ (4 : Int) by omega)
        have H4 := xHc (e := .var 4195650) (lo := 0) (hi := 0) H3 (show (0 : Int) ≤ r 4195650 by omega) (show r 4195650 ≤ (0 : Int) by omega)
        refine yz_run hL yq48_W0s4 hr H4 (xcut_s fun c hc r2 G2 hR => ?_)
        have hr2 : yzr L xs r2 := fun i hi => by rw [hR.2.2.2 i hi]; exact hr i hi
        have aw : r2 128 = w := (hR.2.2.2 128 (by decide)).trans m1
        simp only [List.mem_cons, List.not_mem_nil, or_false] at hc
        rcases hc with rfl | rfl
        · have a1048640 : r2 1048640 = r 1048640 := yas hR List.mem_cons_self
          have a1048704 : r2 1048704 = (r 1048704 + (1 : Int)) := yas hR (List.mem_cons_of_mem _ List.mem_cons_self)
          have fS : ∀ j : Nat, j < 16 → r2 (4194310 + 64 * j) = (bif decide (r 1048960 = (j : Int)) then ((0, -1) : ycV) else (0, r (4194310 + 64 * j))).2 := fun j hj => hR.2.1 _ List.mem_cons_self (4194310, 16, 217) List.mem_cons_self rfl j hj
          have fD : ∀ j : Nat, j < 8 → r2 (4195394 + 64 * j) = (xct r (.branch 0 (.branch 0 (.branch 0 (.leaf (10, .num 4195394)) (.branch 0 (.leaf (0, .add (.var 4195650) (.num 1))) (.leaf (10, .num 4195394)))) (.leaf (10, .num 4195394))) (.leaf (10, .num 4195394))) j).2 := fun j hj => hR.2.1 _ (List.mem_cons_of_mem _ List.mem_cons_self) (4195394, 8, 207) (List.mem_cons_of_mem _ List.mem_cons_self) rfl j hj
          have fD2 : ∀ s : Nat, s < 8 → s ≠ (S p).toNat → r2 (4195394 + 64 * s) = D s := fun s hs hn => ((fD s (by omega)).trans (yb48_d4 r s hs (by omega))).trans (m5 s hs)
          have t0 : (7 : Int) ≤ r 1048704 ∧ r 1048704 ≤ (7 : Int) := hR.2.2.1 _ List.mem_cons_self
          exact hE0 (yb48a_e hv (by omega)) r2 hr2 G2 trivial
        · have a1048577 : r2 1048577 = r 1048577 := yas hR List.mem_cons_self
          have a1048960 : r2 1048960 = (0 : Int) := yas hR (List.mem_cons_of_mem _ List.mem_cons_self)
          have a1048640 : r2 1048640 = r 1048640 := yas hR (List.mem_cons_of_mem _ (List.mem_cons_of_mem _ List.mem_cons_self))
          have a1048704 : r2 1048704 = (r 1048704 + (1 : Int)) := yas hR (List.mem_cons_of_mem _ (List.mem_cons_of_mem _ (List.mem_cons_of_mem _ List.mem_cons_self)))
          have fS : ∀ j : Nat, j < 16 → r2 (4194310 + 64 * j) = (bif decide (r 1048960 = (j : Int)) then ((0, -1) : ycV) else (0, r (4194310 + 64 * j))).2 := fun j hj => hR.2.1 _ List.mem_cons_self (4194310, 16, 217) List.mem_cons_self rfl j hj
          have fD : ∀ j : Nat, j < 8 → r2 (4195394 + 64 * j) = (xct r (.branch 0 (.branch 0 (.branch 0 (.leaf (10, .num 4195394)) (.branch 0 (.leaf (0, .add (.var 4195650) (.num 1))) (.leaf (10, .num 4195394)))) (.leaf (10, .num 4195394))) (.leaf (10, .num 4195394))) j).2 := fun j hj => hR.2.1 _ (List.mem_cons_of_mem _ List.mem_cons_self) (4195394, 8, 207) (List.mem_cons_of_mem _ List.mem_cons_self) rfl j hj
          have fD2 : ∀ s : Nat, s < 8 → s ≠ (S p).toNat → r2 (4195394 + 64 * s) = D s := fun s hs hn => ((fD s (by omega)).trans (yb48_d4 r s hs (by omega))).trans (m5 s hs)
          have t0 : (0 : Int) ≤ r 1048704 ∧ r 1048704 ≤ (6 : Int) := hR.2.2.1 _ List.mem_cons_self
          exact hK r2 w x (f + 1) (yb48u S p (-1)) (fun s => r2 (4195394 + 64 * s)) hr2 G2 trivial ⟨aw, a1048577.trans m2, by omega, fun k hk => yb48_fu (fS k (by omega)) hup rfl (m4 k hk), fun _ _ => rfl, yb48J_step m6 hp (by omega) fD2 (by decide)⟩ (by omega) (fun j hj => absurd hj (by omega)) hv
      · have hv := yb48w_s hy (by omega)
        have ed : r 4195714 = 0 := (m5 5 (by decide)).trans (by
          have z := m6.2.2.1 p hp (by omega)
          rw [e] at z
          exact z)
        have H1 := xHc (e := .sub (.var 128) (.var 1048960)) (lo := 1) (hi := 16) H (show (1 : Int) ≤ (r 128 - r 1048960) by omega) (show (r 128 - r 1048960) ≤ (16 : Int) by omega)
        have H2 := xHc (e := .sub (.var 1048960) (.var 1049024)) (lo := 0) (hi := 0) H1 (show (0 : Int) ≤ (r 1048960 - r 1049024) by omega) (show (r 1048960 - r 1049024) ≤ (0 : Int) by omega)
        have H3 := xHc (e := .pow (.sub (.num 4194310) (.var 1048960)) 0) (lo := 5) (hi := 5) H2 (show (5 : Int) ≤ r (4194310 + 64 * (r 1048960).toNat) by omega) (show r (4194310 + 64 * (r 1048960).toNat) ≤ (5 : Int) by omega)
        have H4 := xHc (e := .var 4195714) (lo := 0) (hi := 0) H3 (show (0 : Int) ≤ r 4195714 by omega) (show r 4195714 ≤ (0 : Int) by omega)
        refine yz_run hL yq48_W0s5 hr H4 (xcut_s fun c hc r2 G2 hR => ?_)
        have hr2 : yzr L xs r2 := fun i hi => by rw [hR.2.2.2 i hi]; exact hr i hi
        have aw : r2 128 = w := (hR.2.2.2 128 (by decide)).trans m1
        simp only [List.mem_cons, List.not_mem_nil, or_false] at hc
        rcases hc with rfl | rfl
        · have a1048640 : r2 1048640 = r 1048640 := yas hR List.mem_cons_self
          have a1048704 : r2 1048704 = (r 1048704 + (1 : Int)) := yas hR (List.mem_cons_of_mem _ List.mem_cons_self)
          have fS : ∀ j : Nat, j < 16 → r2 (4194310 + 64 * j) = (bif decide (r 1048960 = (j : Int)) then ((0, -1) : ycV) else (0, r (4194310 + 64 * j))).2 := fun j hj => hR.2.1 _ List.mem_cons_self (4194310, 16, 217) List.mem_cons_self rfl j hj
          have fD : ∀ j : Nat, j < 8 → r2 (4195394 + 64 * j) = (xct r (.branch 0 (.leaf (10, .num 4195394)) (.branch 0 (.branch 0 (.leaf (10, .num 4195394)) (.branch 0 (.leaf (0, .add (.var 4195714) (.num 1))) (.leaf (10, .num 4195394)))) (.leaf (10, .num 4195394)))) j).2 := fun j hj => hR.2.1 _ (List.mem_cons_of_mem _ List.mem_cons_self) (4195394, 8, 207) (List.mem_cons_of_mem _ List.mem_cons_self) rfl j hj
          have fD2 : ∀ s : Nat, s < 8 → s ≠ (S p).toNat → r2 (4195394 + 64 * s) = D s := fun s hs hn => ((fD s (by omega)).trans (yb48_d5 r s hs (by omega))).trans (m5 s hs)
          have t0 : (7 : Int) ≤ r 1048704 ∧ r 1048704 ≤ (7 : Int) := hR.2.2.1 _ List.mem_cons_self
          exact hE0 (yb48a_e hv (by omega)) r2 hr2 G2 trivial
        · have a1048577 : r2 1048577 = r 1048577 := yas hR List.mem_cons_self
          have a1048960 : r2 1048960 = (0 : Int) := yas hR (List.mem_cons_of_mem _ List.mem_cons_self)
          have a1048640 : r2 1048640 = r 1048640 := yas hR (List.mem_cons_of_mem _ (List.mem_cons_of_mem _ List.mem_cons_self))
          have a1048704 : r2 1048704 = (r 1048704 + (1 : Int)) := yas hR (List.mem_cons_of_mem _ (List.mem_cons_of_mem _ (List.mem_cons_of_mem _ List.mem_cons_self)))
          have fS : ∀ j : Nat, j < 16 → r2 (4194310 + 64 * j) = (bif decide (r 1048960 = (j : Int)) then ((0, -1) : ycV) else (0, r (4194310 + 64 * j))).2 := fun j hj => hR.2.1 _ List.mem_cons_self (4194310, 16, 217) List.mem_cons_self rfl j hj
          have fD : ∀ j : Nat, j < 8 → r2 (4195394 + 64 * j) = (xct r (.branch 0 (.leaf (10, .num 4195394)) (.branch 0 (.branch 0 (.leaf (10, .num 4195394)) (.branch 0 (.leaf (0, .add (.var 4195714) (.num 1))) (.leaf (10, .num 4195394)))) (.leaf (10, .num 4195394)))) j).2 := fun j hj => hR.2.1 _ (List.mem_cons_of_mem _ List.mem_cons_self) (4195394, 8, 207) (List.mem_cons_of_mem _ List.mem_cons_self) rfl j hj
          have fD2 : ∀ s : Nat, s < 8 → s ≠ (S p).toNat → r2 (4195394 + 64 * s) = D s := fun s hs hn => ((fD s (by omega)).trans (yb48_d5 r s hs (by omega))).trans (m5 s hs)
          have t0 : (0 : Int) ≤ r 1048704 ∧ r 1048704 ≤ (6 : Int) := hR.2.2.1 _ List.mem_cons_self
          exact hK r2 w x (f + 1) (yb48u S p (-1)) (fun s => r2 (4195394 + 64 * s)) hr2 G2 trivial ⟨aw, a1048577.trans m2, by omega, fun k hk => yb48_fu (fS k (by omega)) hup rfl (m4 k hk), fun _ _ => rfl, yb48J_step m6 hp (by omega) fD2 (by decide)⟩ (by omega) (fun j hj => absurd hj (by omega)) hv
      · have hv := yb48w_s hy (by omega)
        have ed : r 4195778 = 0 := (m5 6 (by decide)).trans (by
          have z := m6.2.2.1 p hp (by omega)
          rw [e] at z
          exact z)
        have H1 := xHc (e := .sub (.var 128) (.var 1048960)) (lo := 1) (hi := 16) H (show (1 : Int) ≤ (r 128 - r 1048960) by omega) (show (r 128 - r 1048960) ≤ (16 : Int) by omega)
        have H2 := xHc (e := .sub (.var 1048960) (.var 1049024)) (lo := 0) (hi := 0) H1 (show (0 : Int) ≤ (r 1048960 - r 1049024) by omega) (show (r 1048960 - r 1049024) ≤ (0 : Int) by omega)
        have H3 := xHc (e := .pow (.sub (.num 4194310) (.var 1048960)) 0) (lo := 6) (hi := 6) H2 (show (6 : Int) ≤ r (4194310 + 64 * (r 1048960).toNat) by omega) (show r (4194310 + 64 * (r 1048960).toNat) ≤ (6 : Int) by omega)
        have H4 := xHc (e := .var 4195778) (lo := 0) (hi := 0) H3 (show (0 : Int) ≤ r 4195778 by omega) (show r 4195778 ≤ (0 : Int) by omega)
        refine yz_run hL yq48_W0s6 hr H4 (xcut_s fun c hc r2 G2 hR => ?_)
        have hr2 : yzr L xs r2 := fun i hi => by rw [hR.2.2.2 i hi]; exact hr i hi
        have aw : r2 128 = w := (hR.2.2.2 128 (by decide)).trans m1
        simp only [List.mem_cons, List.not_mem_nil, or_false] at hc
        rcases hc with rfl | rfl
        · have a1048640 : r2 1048640 = r 1048640 := yas hR List.mem_cons_self
          have a1048704 : r2 1048704 = (r 1048704 + (1 : Int)) := yas hR (List.mem_cons_of_mem _ List.mem_cons_self)
          have fS : ∀ j : Nat, j < 16 → r2 (4194310 + 64 * j) = (bif decide (r 1048960 = (j : Int)) then ((0, -1) : ycV) else (0, r (4194310 + 64 * j))).2 := fun j hj => hR.2.1 _ List.mem_cons_self (4194310, 16, 217) List.mem_cons_self rfl j hj
          have fD : ∀ j : Nat, j < 8 → r2 (4195394 + 64 * j) = (xct r (.branch 0 (.branch 0 (.leaf (10, .num 4195394)) (.branch 0 (.leaf (10, .num 4195394)) (.branch 0 (.leaf (0, .add (.var 4195778) (.num 1))) (.leaf (10, .num 4195394))))) (.leaf (10, .num 4195394))) j).2 := fun j hj => hR.2.1 _ (List.mem_cons_of_mem _ List.mem_cons_self) (4195394, 8, 207) (List.mem_cons_of_mem _ List.mem_cons_self) rfl j hj
          have fD2 : ∀ s : Nat, s < 8 → s ≠ (S p).toNat → r2 (4195394 + 64 * s) = D s := fun s hs hn => ((fD s (by omega)).trans (yb48_d6 r s hs (by omega))).trans (m5 s hs)
          have t0 : (7 : Int) ≤ r 1048704 ∧ r 1048704 ≤ (7 : Int) := hR.2.2.1 _ List.mem_cons_self
          exact hE0 (yb48a_e hv (by omega)) r2 hr2 G2 trivial
        · have a1048577 : r2 1048577 = r 1048577 := yas hR List.mem_cons_self
          have a1048960 : r2 1048960 = (0 : Int) := yas hR (List.mem_cons_of_mem _ List.mem_cons_self)
          have a1048640 : r2 1048640 = r 1048640 := yas hR (List.mem_cons_of_mem _ (List.mem_cons_of_mem _ List.mem_cons_self))
          have a1048704 : r2 1048704 = (r 1048704 + (1 : Int)) := yas hR (List.mem_cons_of_mem _ (List.mem_cons_of_mem _ (List.mem_cons_of_mem _ List.mem_cons_self)))
          have fS : ∀ j : Nat, j < 16 → r2 (4194310 + 64 * j) = (bif decide (r 1048960 = (j : Int)) then ((0, -1) : ycV) else (0, r (4194310 + 64 * j))).2 := fun j hj => hR.2.1 _ List.mem_cons_self (4194310, 16, 217) List.mem_cons_self rfl j hj
          have fD : ∀ j : Nat, j < 8 → r2 (4195394 + 64 * j) = (xct r (.branch 0 (.branch 0 (.leaf (10, .num 4195394)) (.branch 0 (.leaf (10, .num 4195394)) (.branch 0 (.leaf (0, .add (.var 4195778) (.num 1))) (.leaf (10, .num 4195394))))) (.leaf (10, .num 4195394))) j).2 := fun j hj => hR.2.1 _ (List.mem_cons_of_mem _ List.mem_cons_self) (4195394, 8, 207) (List.mem_cons_of_mem _ List.mem_cons_self) rfl j hj
          have fD2 : ∀ s : Nat, s < 8 → s ≠ (S p).toNat → r2 (4195394 + 64 * s) = D s := fun s hs hn => ((fD s (by omega)).trans (yb48_d6 r s hs (by omega))).trans (m5 s hs)
          have t0 : (0 : Int) ≤ r 1048704 ∧ r 1048704 ≤ (6 : Int) := hR.2.2.1 _ List.mem_cons_self
          exact hK r2 w x (f + 1) (yb48u S p (-1)) (fun s => r2 (4195394 + 64 * s)) hr2 G2 trivial ⟨aw, a1048577.trans m2, by omega, fun k hk => yb48_fu (fS k (by omega)) hup rfl (m4 k hk), fun _ _ => rfl, yb48J_step m6 hp (by omega) fD2 (by decide)⟩ (by omega) (fun j hj => absurd hj (by omega)) hv
      · have hv := yb48w_s hy (by omega)
        have ed : r 4195842 = 0 := (m5 7 (by decide)).trans (by
          have z := m6.2.2.1 p hp (by omega)
          rw [e] at z
          exact z)
        have H1 := xHc (e := .sub (.var 128) (.var 1048960)) (lo := 1) (hi := 16) H (show (1 : Int) ≤ (r 128 - r 1048960) by omega) (show (r 128 - r 1048960) ≤ (16 : Int) by omega)
        have H2 := xHc (e := .sub (.var 1048960) (.var 1049024)) (lo := 0) (hi := 0) H1 (show (0 : Int) ≤ (r 1048960 - r 1049024) by omega) (show (r 1048960 - r 1049024) ≤ (0 : Int) by omega)
        have H3 := xHc (e := .pow (.sub (.num 4194310) (.var 1048960)) 0) (lo := 7) (hi := 7) H2 (show (7 : Int) ≤ r (4194310 + 64 * (r 1048960).toNat) by omega) (show r (4194310 + 64 * (r 1048960).toNat) ≤ (7 : Int) by omega)
        have H4 := xHc (e := .var 4195842) (lo := 0) (hi := 0) H3 (show (0 : Int) ≤ r 4195842 by omega) (show r 4195842 ≤ (0 : Int) by omega)
        refine yz_run hL yq48_W0s7 hr H4 (xcut_s fun c hc r2 G2 hR => ?_)
        have hr2 : yzr L xs r2 := fun i hi => by rw [hR.2.2.2 i hi]; exact hr i hi
        have aw : r2 128 = w := (hR.2.2.2 128 (by decide)).trans m1
        simp only [List.mem_cons, List.not_mem_nil, or_false] at hc
        rcases hc with rfl | rfl
        · have a1048640 : r2 1048640 = r 1048640 := yas hR List.mem_cons_self
          have a1048704 : r2 1048704 = (r 1048704 + (1 : Int)) := yas hR (List.mem_cons_of_mem _ List.mem_cons_self)
          have fS : ∀ j : Nat, j < 16 → r2 (4194310 + 64 * j) = (bif decide (r 1048960 = (j : Int)) then ((0, -1) : ycV) else (0, r (4194310 + 64 * j))).2 := fun j hj => hR.2.1 _ List.mem_cons_self (4194310, 16, 217) List.mem_cons_self rfl j hj
          have fD : ∀ j : Nat, j < 8 → r2 (4195394 + 64 * j) = (xct r (.branch 0 (.leaf (10, .num 4195394)) (.branch 0 (.leaf (10, .num 4195394)) (.branch 0 (.leaf (10, .num 4195394)) (.branch 0 (.leaf (0, .add (.var 4195842) (.num 1))) (.leaf (10, .num 4195394)))))) j).2 := fun j hj => hR.2.1 _ (List.mem_cons_of_mem _ List.mem_cons_self) (4195394, 8, 207) (List.mem_cons_of_mem _ List.mem_cons_self) rfl j hj
          have fD2 : ∀ s : Nat, s < 8 → s ≠ (S p).toNat → r2 (4195394 + 64 * s) = D s := fun s hs hn => ((fD s (by omega)).trans (yb48_d7 r s hs (by omega))).trans (m5 s hs)
          have t0 : (7 : Int) ≤ r 1048704 ∧ r 1048704 ≤ (7 : Int) := hR.2.2.1 _ List.mem_cons_self
          exact hE0 (yb48a_e hv (by omega)) r2 hr2 G2 trivial
        · have a1048577 : r2 1048577 = r 1048577 := yas hR List.mem_cons_self
          have a1048960 : r2 1048960 = (0 : Int) := yas hR (List.mem_cons_of_mem _ List.mem_cons_self)
          have a1048640 : r2 1048640 = r 1048640 := yas hR (List.mem_cons_of_mem _ (List.mem_cons_of_mem _ List.mem_cons_self))
          have a1048704 : r2 1048704 = (r 1048704 + (1 : Int)) := yas hR (List.mem_cons_of_mem _ (List.mem_cons_of_mem _ (List.mem_cons_of_mem _ List.mem_cons_self)))
          have fS : ∀ j : Nat, j < 16 → r2 (4194310 + 64 * j) = (bif decide (r 1048960 = (j : Int)) then ((0, -1) : ycV) else (0, r (4194310 + 64 * j))).2 := fun j hj => hR.2.1 _ List.mem_cons_self (4194310, 16, 217) List.mem_cons_self rfl j hj
          have fD : ∀ j : Nat, j < 8 → r2 (4195394 + 64 * j) = (xct r (.branch 0 (.leaf (10, .num 4195394)) (.branch 0 (.leaf (10, .num 4195394)) (.branch 0 (.leaf (10, .num 4195394)) (.branch 0 (.leaf (0, .add (.var 4195842) (.num 1))) (.leaf (10, .num 4195394)))))) j).2 := fun j hj => hR.2.1 _ (List.mem_cons_of_mem _ List.mem_cons_self) (4195394, 8, 207) (List.mem_cons_of_mem _ List.mem_cons_self) rfl j hj
          have fD2 : ∀ s : Nat, s < 8 → s ≠ (S p).toNat → r2 (4195394 + 64 * s) = D s := fun s hs hn => ((fD s (by omega)).trans (yb48_d7 r s hs (by omega))).trans (m5 s hs)
          have t0 : (0 : Int) ≤ r 1048704 ∧ r 1048704 ≤ (6 : Int) := hR.2.2.1 _ List.mem_cons_self
          exact hK r2 w x (f + 1) (yb48u S p (-1)) (fun s => r2 (4195394 + 64 * s)) hr2 G2 trivial ⟨aw, a1048577.trans m2, by omega, fun k hk => yb48_fu (fS k (by omega)) hup rfl (m4 k hk), fun _ _ => rfl, yb48J_step m6 hp (by omega) fD2 (by decide)⟩ (by omega) (fun j hj => absurd hj (by omega)) hv
    · have H1 := xHc (e := .sub (.var 128) (.var 1048960)) (lo := 1) (hi := 16) H (show (1 : Int) ≤ (r 128 - r 1048960) by omega) (show (r 128 - r 1048960) ≤ (16 : Int) by omega)
      have H2 := xHc (e := .sub (.var 1048960) (.var 1049024)) (lo := -15) (hi := -1) H1 (show (-15 : Int) ≤ (r 1048960 - r 1049024) by omega) (show (r 1048960 - r 1049024) ≤ (-1 : Int) by omega)
      refine yz_run hL yq48_W0n hr H2 (xcut_s fun c hc r2 G2 hR => ?_)
      have hr2 : yzr L xs r2 := fun i hi => by rw [hR.2.2.2 i hi]; exact hr i hi
      have aw : r2 128 = w := (hR.2.2.2 128 (by decide)).trans m1
      rw [List.mem_singleton] at hc
      subst hc
      have a1048577 : r2 1048577 = r 1048577 := yas hR List.mem_cons_self
      have a1049024 : r2 1049024 = r 1049024 := yas hR (List.mem_cons_of_mem _ List.mem_cons_self)
      have a1048960 : r2 1048960 = (r 1048960 + (1 : Int)) := yas hR (List.mem_cons_of_mem _ (List.mem_cons_of_mem _ List.mem_cons_self))
      have a1048640 : r2 1048640 = r 1048640 := yas hR (List.mem_cons_of_mem _ (List.mem_cons_of_mem _ (List.mem_cons_of_mem _ List.mem_cons_self)))
      have a1048704 : r2 1048704 = r 1048704 := yas hR (List.mem_cons_of_mem _ (List.mem_cons_of_mem _ (List.mem_cons_of_mem _ (List.mem_cons_of_mem _ List.mem_cons_self))))
      have fS : ∀ j : Nat, j < 16 → r2 (4194310 + 64 * j) = r (4194310 + 64 * j) := fun j hj => hR.2.1 _ List.mem_cons_self (4194310, 16, 217) List.mem_cons_self rfl j hj
      have fD : ∀ j : Nat, j < 8 → r2 (4195394 + 64 * j) = r (4195394 + 64 * j) := fun j hj => hR.2.1 _ (List.mem_cons_of_mem _ List.mem_cons_self) (4195394, 8, 207) (List.mem_cons_of_mem _ List.mem_cons_self) rfl j hj
      exact ih r2 hr2 G2 trivial ⟨aw, a1048577.trans m2, a1048704.trans m3, fun k hk => (fS k (by omega)).trans (m4 k hk), fun s hs => (fD s (by omega)).trans (m5 s hs), m6⟩ (by omega) (by omega) (by omega) (by omega)
theorem y48_C1 {L : Nat} {xs : Nat → Int32} (hL : L ≤ 3584) {y0 : Int} {n : Nat} (hW : yb48W L xs yZ0 y0 yt48_W1 yF48_W1 n 1) : yb48C L xs yZ0 y0 yt48_C1 yF48_C1 (n + 1) 1 := by
  intro r w x f S D hr H hZ hM hT hy
  obtain ⟨m1, m2, m3, m4, m5, m6⟩ := hM
  have hw : 1 ≤ r 128 ∧ r 128 ≤ 16 := xbd_s H (e := .var 128) (lo := 1) (hi := 16) (by decide +kernel)
  have hw2 : 1 ≤ w ∧ w ≤ 16 := by omega
  have H1 := xHc (e := .sub (.var 128) (.pow (.add (.pow (.add (.pow (.add (.pow (.add (.var 1048577) (.num 6364136223846793005)) 38) (.num 1442695040888963407)) 36) (.num 33)) 51) (.var 128)) 40)) (lo := 1) (hi := 16) H (by rw [xden_sub, xden_var, yb48P_d, m1, m2]; exact (yb48_w1 (yb48P_r hw2.1 hw2.2) hw2.2).1) (by rw [xden_sub, xden_var, yb48P_d, m1, m2]; exact (yb48_w1 (yb48P_r hw2.1 hw2.2) hw2.2).2)
  refine yz_run hL yq48_C1 hr H1 (xcut_s fun c hc r2 G2 hR => ?_)
  have hr2 : yzr L xs r2 := fun i hi => by rw [hR.2.2.2 i hi]; exact hr i hi
  have aw : r2 128 = w := (hR.2.2.2 128 (by decide)).trans m1
  rw [List.mem_singleton] at hc
  subst hc
  have a1048960 : r2 1048960 = (0 : Int) := yas hR (List.mem_cons_of_mem _ (List.mem_cons_of_mem _ List.mem_cons_self))
  have a1048640 : r2 1048640 = (r 1048640 + (1 : Int)) := yas hR (List.mem_cons_of_mem _ (List.mem_cons_of_mem _ (List.mem_cons_of_mem _ List.mem_cons_self)))
  have a1048704 : r2 1048704 = r 1048704 := yas hR (List.mem_cons_of_mem _ (List.mem_cons_of_mem _ (List.mem_cons_of_mem _ (List.mem_cons_of_mem _ List.mem_cons_self))))
  have fS : ∀ j : Nat, j < 16 → r2 (4194310 + 64 * j) = r (4194310 + 64 * j) := fun j hj => hR.2.1 _ List.mem_cons_self (4194310, 16, 217) List.mem_cons_self rfl j hj
  have fD : ∀ j : Nat, j < 8 → r2 (4195394 + 64 * j) = r (4195394 + 64 * j) := fun j hj => hR.2.1 _ (List.mem_cons_of_mem _ List.mem_cons_self) (4195394, 8, 207) (List.mem_cons_of_mem _ List.mem_cons_self) rfl j hj
  have o1 := hT
  have gS : ∀ k : Nat, (k : Int) < w → r2 (4194310 + 64 * k) = S k := fun k hk => (fS k (by omega)).trans (m4 k hk)
  have gD : ∀ s : Nat, s < 8 → r2 (4195394 + 64 * s) = D s := fun s hs => (fD s (by omega)).trans (m5 s hs)
  have gT : r2 1048640 + (n : Int) = 20000 := by omega
  have a1048577 : r2 1048577 = yb48X (r 1048577) := (yas hR List.mem_cons_self).trans (yb48X_d r)
  have a1049024 : r2 1049024 = yb48P (r 128) (r 1048577) := (yas hR (List.mem_cons_of_mem _ List.mem_cons_self)).trans (yb48P_d r)
  exact hW r2 w (yb48X x) f S D (yb48P w x).toNat hr2 G2 trivial ⟨aw, by rw [a1048577, m2], a1048704.trans m3, gS, gD, m6⟩ gT (yb48_w2 (yb48P_r hw2.1 hw2.2)) (by rw [a1049024, m1, m2]; exact yb48_w3 (yb48P_r hw2.1 hw2.2)) (by rw [a1048960]; exact yb48_w5 _) (yb48_t hy)
theorem y48_W1 {L : Nat} {xs : Nat → Int32} (hL : L ≤ 3584) {y0 : Int} {n : Nat} (hC : yb48C L xs yZ0 y0 yt48_C1 yF48_C1 n 1) (hK : yb48K L xs yZ0 y0 yt48_K yF48_K n) (hE0 : yb48E L xs yZ0 y0 (0) yt48_E0 yF48_E0) (hE3 : yb48E L xs yZ0 y0 (-3) yt48_E3 yF48_E3) : yb48W L xs yZ0 y0 yt48_W1 yF48_W1 n 1 := by
  intro r w x f S D p hr H hZ hM hT hp hP hU hy
  suffices main : ∀ d : Nat, ∀ r, yzr L xs r → xH r yF48_W1 → yZ0 r → yb48M r w 1 x f S D → r 1048640 + (n : Int) = 20000 → r 1049024 = (p : Int) → r 1048960 ≤ (p : Int) → (p : Int) - r 1048960 < (d : Int) → xGl (yfT (ykold L xs)) r yzP yt48_W1 from
    main (p + 1) r hr H hZ hM hT hP hU (by
      have hu : 0 ≤ r 1048960 ∧ r 1048960 ≤ 15 := xbd_s H (e := .var 1048960) (lo := 0) (hi := 15) (by decide +kernel)
      omega)
  intro d
  induction d with
  | zero =>
    intro r hr H hZ hM hT hP hU hd
    omega
  | succ d ih =>
    intro r hr H hZ hM hT hP hU hd
    obtain ⟨m1, m2, m3, m4, m5, m6⟩ := hM
    have hw : 1 ≤ r 128 ∧ r 128 ≤ 16 := xbd_s H (e := .var 128) (lo := 1) (hi := 16) (by decide +kernel)
    have hu : 0 ≤ r 1048960 ∧ r 1048960 ≤ 15 := xbd_s H (e := .var 1048960) (lo := 0) (hi := 15) (by decide +kernel)
    have hf : 0 ≤ r 1048704 ∧ r 1048704 ≤ 7 := xbd_s H (e := .var 1048704) (lo := 0) (hi := 7) (by decide +kernel)
    by_cases hup : r 1048960 = (p : Int)
    · have es : r (4194310 + 64 * (r 1048960).toNat) = S p := by
        have e0 : (r 1048960).toNat = p := by omega
        rw [e0]
        exact m4 p hp
      have j1 := m6.1 p hp
      have e : S p = -1 ∨ S p = 0 ∨ S p = 1 ∨ S p = 2 ∨ S p = 3 ∨ S p = 4 ∨ S p = 5 ∨ S p = 6 := by omega
      rcases e with e | e | e | e | e | e | e | e
      · have hv := yb48w_t (q := 0) hy e
        have H1 := xHc (e := .sub (.var 128) (.var 1048960)) (lo := 1) (hi := 16) H (show (1 : Int) ≤ (r 128 - r 1048960) by omega) (show (r 128 - r 1048960) ≤ (16 : Int) by omega)
        have H2 := xHc (e := .sub (.var 1048960) (.var 1049024)) (lo := 0) (hi := 0) H1 (show (0 : Int) ≤ (r 1048960 - r 1049024) by omega) (show (r 1048960 - r 1049024) ≤ (0 : Int) by omega)
        have H3 := xHc (e := .pow (.sub (.num 4194310) (.var 1048960)) 0) (lo := -1) (hi := -1) H2 (show (-1 : Int) ≤ r (4194310 + 64 * (r 1048960).toNat) by omega) (show r (4194310 + 64 * (r 1048960).toNat) ≤ (-1 : Int) by omega)
        refine yz_run hL yq48_W1t hr H3 (xcut_s fun c hc r2 G2 hR => ?_)
        have hr2 : yzr L xs r2 := fun i hi => by rw [hR.2.2.2 i hi]; exact hr i hi
        have aw : r2 128 = w := (hR.2.2.2 128 (by decide)).trans m1
        rw [List.mem_singleton] at hc
        subst hc
        have a1048577 : r2 1048577 = r 1048577 := yas hR List.mem_cons_self
        have a1048960 : r2 1048960 = (0 : Int) := yas hR (List.mem_cons_of_mem _ List.mem_cons_self)
        have a1048640 : r2 1048640 = r 1048640 := yas hR (List.mem_cons_of_mem _ (List.mem_cons_of_mem _ List.mem_cons_self))
        have a1048704 : r2 1048704 = r 1048704 := yas hR (List.mem_cons_of_mem _ (List.mem_cons_of_mem _ (List.mem_cons_of_mem _ List.mem_cons_self)))
        have fS : ∀ j : Nat, j < 16 → r2 (4194310 + 64 * j) = (bif decide (r 1048960 = (j : Int)) then ((0, 7) : ycV) else (0, r (4194310 + 64 * j))).2 := fun j hj => hR.2.1 _ List.mem_cons_self (4194310, 16, 217) List.mem_cons_self rfl j hj
        have fD : ∀ j : Nat, j < 8 → r2 (4195394 + 64 * j) = r (4195394 + 64 * j) := fun j hj => hR.2.1 _ (List.mem_cons_of_mem _ List.mem_cons_self) (4195394, 8, 207) (List.mem_cons_of_mem _ List.mem_cons_self) rfl j hj
        exact hK r2 w x f (yb48u S p (8 - ((0 + 1 : Nat) : Int))) D hr2 G2 trivial ⟨aw, a1048577.trans m2, a1048704.trans m3, fun k hk => yb48_fu (fS k (by omega)) hup (by decide) (m4 k hk), fun s hs => (fD s (by omega)).trans (m5 s hs), yb48J_take m6 hp (by decide)⟩ (by omega) (fun j hj => absurd hj (by omega)) hv
      · have hv := yb48w_s hy (by omega)
        have ed : r 4195394 = 0 := (m5 0 (by decide)).trans (by
          have z := m6.2.2.1 p hp (by omega)
          rw [e] at z
          exact z)
        have H1 := xHc (e := .sub (.var 128) (.var 1048960)) (lo := 1) (hi := 16) H (show (1 : Int) ≤ (r 128 - r 1048960) by omega) (show (r 128 - r 1048960) ≤ (16 : Int) by omega)
        have H2 := xHc (e := .sub (.var 1048960) (.var 1049024)) (lo := 0) (hi := 0) H1 (show (0 : Int) ≤ (r 1048960 - r 1049024) by omega) (show (r 1048960 - r 1049024) ≤ (0 : Int) by omega)
        have H3 := xHc (e := .pow (.sub (.num 4194310) (.var 1048960)) 0) (lo := 0) (hi := 0) H2 (show (0 : Int) ≤ r (4194310 + 64 * (r 1048960).toNat) by omega) (show r (4194310 + 64 * (r 1048960).toNat) ≤ (0 : Int) by omega)
        have H4 := xHc (e := .var 4195394) (lo := 0) (hi := 0) H3 (show (0 : Int) ≤ r 4195394 by omega) (show r 4195394 ≤ (0 : Int) by omega)
        refine yz_run hL yq48_W1s0 hr H4 (xcut_s fun c hc r2 G2 hR => ?_)
        have hr2 : yzr L xs r2 := fun i hi => by rw [hR.2.2.2 i hi]; exact hr i hi
        have aw : r2 128 = w := (hR.2.2.2 128 (by decide)).trans m1
        simp only [List.mem_cons, List.not_mem_nil, or_false] at hc
        rcases hc with rfl | rfl | rfl
        · have a1048640 : r2 1048640 = r 1048640 := yas hR List.mem_cons_self
          have a1048704 : r2 1048704 = (r 1048704 + (1 : Int)) := yas hR (List.mem_cons_of_mem _ List.mem_cons_self)
          have fS : ∀ j : Nat, j < 16 → r2 (4194310 + 64 * j) = (bif decide (r 1048960 = (j : Int)) then ((0, -1) : ycV) else (0, r (4194310 + 64 * j))).2 := fun j hj => hR.2.1 _ List.mem_cons_self (4194310, 16, 217) List.mem_cons_self rfl j hj
          have fD : ∀ j : Nat, j < 8 → r2 (4195394 + 64 * j) = (xct r (.branch 0 (.branch 0 (.branch 0 (.branch 0 (.leaf (0, .add (.var 4195394) (.num 1))) (.leaf (10, .num 4195394))) (.leaf (10, .num 4195394))) (.leaf (10, .num 4195394))) (.leaf (10, .num 4195394))) j).2 := fun j hj => hR.2.1 _ (List.mem_cons_of_mem _ List.mem_cons_self) (4195394, 8, 207) (List.mem_cons_of_mem _ List.mem_cons_self) rfl j hj
          have fD2 : ∀ s : Nat, s < 8 → s ≠ (S p).toNat → r2 (4195394 + 64 * s) = D s := fun s hs hn => ((fD s (by omega)).trans (yb48_d0 r s hs (by omega))).trans (m5 s hs)
          have t0 : (7 : Int) ≤ r 1048704 ∧ r 1048704 ≤ (7 : Int) := hR.2.2.1 _ List.mem_cons_self
          exact hE0 (yb48a_e hv (by omega)) r2 hr2 G2 trivial
        · have a1048577 : r2 1048577 = r 1048577 := yas hR List.mem_cons_self
          have a1048640 : r2 1048640 = r 1048640 := yas hR (List.mem_cons_of_mem _ List.mem_cons_self)
          have a1048704 : r2 1048704 = (r 1048704 + (1 : Int)) := yas hR (List.mem_cons_of_mem _ (List.mem_cons_of_mem _ List.mem_cons_self))
          have fS : ∀ j : Nat, j < 16 → r2 (4194310 + 64 * j) = (bif decide (r 1048960 = (j : Int)) then ((0, -1) : ycV) else (0, r (4194310 + 64 * j))).2 := fun j hj => hR.2.1 _ List.mem_cons_self (4194310, 16, 217) List.mem_cons_self rfl j hj
          have fD : ∀ j : Nat, j < 8 → r2 (4195394 + 64 * j) = (xct r (.branch 0 (.branch 0 (.branch 0 (.branch 0 (.leaf (0, .add (.var 4195394) (.num 1))) (.leaf (10, .num 4195394))) (.leaf (10, .num 4195394))) (.leaf (10, .num 4195394))) (.leaf (10, .num 4195394))) j).2 := fun j hj => hR.2.1 _ (List.mem_cons_of_mem _ List.mem_cons_self) (4195394, 8, 207) (List.mem_cons_of_mem _ List.mem_cons_self) rfl j hj
          have fD2 : ∀ s : Nat, s < 8 → s ≠ (S p).toNat → r2 (4195394 + 64 * s) = D s := fun s hs hn => ((fD s (by omega)).trans (yb48_d0 r s hs (by omega))).trans (m5 s hs)
          have t1 : (0 : Int) ≤ r 1048704 ∧ r 1048704 ≤ (6 : Int) := hR.2.2.1 _ (List.mem_cons_of_mem _ List.mem_cons_self)
          have hv2 := yb48a_n hv (by omega) (by decide)
          exact hC r2 w x (f + 1) (yb48u S p (-1)) (fun s => r2 (4195394 + 64 * s)) hr2 G2 trivial ⟨aw, a1048577.trans m2, by omega, fun k hk => yb48_fu (fS k (by omega)) hup rfl (m4 k hk), fun _ _ => rfl, yb48J_step m6 hp (by omega) fD2 (by decide)⟩ (by omega) hv2
        · have a1048640 : r2 1048640 = r 1048640 := yas hR List.mem_cons_self
          have a1048704 : r2 1048704 = (r 1048704 + (1 : Int)) := yas hR (List.mem_cons_of_mem _ List.mem_cons_self)
          have fS : ∀ j : Nat, j < 16 → r2 (4194310 + 64 * j) = (bif decide (r 1048960 = (j : Int)) then ((0, -1) : ycV) else (0, r (4194310 + 64 * j))).2 := fun j hj => hR.2.1 _ List.mem_cons_self (4194310, 16, 217) List.mem_cons_self rfl j hj
          have fD : ∀ j : Nat, j < 8 → r2 (4195394 + 64 * j) = (xct r (.branch 0 (.branch 0 (.branch 0 (.branch 0 (.leaf (0, .add (.var 4195394) (.num 1))) (.leaf (10, .num 4195394))) (.leaf (10, .num 4195394))) (.leaf (10, .num 4195394))) (.leaf (10, .num 4195394))) j).2 := fun j hj => hR.2.1 _ (List.mem_cons_of_mem _ List.mem_cons_self) (4195394, 8, 207) (List.mem_cons_of_mem _ List.mem_cons_self) rfl j hj
          have fD2 : ∀ s : Nat, s < 8 → s ≠ (S p).toNat → r2 (4195394 + 64 * s) = D s := fun s hs hn => ((fD s (by omega)).trans (yb48_d0 r s hs (by omega))).trans (m5 s hs)
          have t1 : (0 : Int) ≤ r 1048704 ∧ r 1048704 ≤ (6 : Int) := hR.2.2.1 _ (List.mem_cons_of_mem _ List.mem_cons_self)
          have hv2 := yb48a_n hv (by omega) (by decide)
          have t0 : (20000 : Int) ≤ r 1048640 ∧ r 1048640 ≤ (20000 : Int) := hR.2.2.1 _ List.mem_cons_self
          have hn : n = 0 := by omega
          subst hn
          exact hE3 (yb48_0 hv2) r2 hr2 G2 trivial
      · have hv := yb48w_s hy (by omega)
        have ed : r 4195458 = 0 := (m5 1 (by decide)).trans (by
          have z := m6.2.2.1 p hp (by omega)
          rw [e] at z
          exact z)
        have H1 := xHc (e := .sub (.var 128) (.var 1048960)) (lo := 1) (hi := 16) H (show (1 : Int) ≤ (r 128 - r 1048960) by omega) (show (r 128 - r 1048960) ≤ (16 : Int) by omega)
        have H2 := xHc (e := .sub (.var 1048960) (.var 1049024)) (lo := 0) (hi := 0) H1 (show (0 : Int) ≤ (r 1048960 - r 1049024) by omega) (show (r 1048960 - r 1049024) ≤ (0 : Int) by omega)
        have H3 := xHc (e := .pow (.sub (.num 4194310) (.var 1048960)) 0) (lo := 1) (hi := 1) H2 (show (1 : Int) ≤ r (4194310 + 64 * (r 1048960).toNat) by omega) (show r (4194310 + 64 * (r 1048960).toNat) ≤ (1 : Int) by omega)
        have H4 := xHc (e := .var 4195458) (lo := 0) (hi := 0) H3 (show (0 : Int) ≤ r 4195458 by omega) (show r 4195458 ≤ (0 : Int) by omega)
        refine yz_run hL yq48_W1s1 hr H4 (xcut_s fun c hc r2 G2 hR => ?_)
        have hr2 : yzr L xs r2 := fun i hi => by rw [hR.2.2.2 i hi]; exact hr i hi
        have aw : r2 128 = w := (hR.2.2.2 128 (by decide)).trans m1
        simp only [List.mem_cons, List.not_mem_nil, or_false] at hc
        rcases hc with rfl | rfl | rfl
        · have a1048640 : r2 1048640 = r 1048640 := yas hR List.mem_cons_self
          have a1048704 : r2 1048704 = (r 1048704 + (1 : Int)) := yas hR (List.mem_cons_of_mem _ List.mem_cons_self)
          have fS : ∀ j : Nat, j < 16 → r2 (4194310 + 64 * j) = (bif decide (r 1048960 = (j : Int)) then ((0, -1) : ycV) else (0, r (4194310 + 64 * j))).2 := fun j hj => hR.2.1 _ List.mem_cons_self (4194310, 16, 217) List.mem_cons_self rfl j hj
          have fD : ∀ j : Nat, j < 8 → r2 (4195394 + 64 * j) = (xct r (.branch 0 (.leaf (10, .num 4195394)) (.branch 0 (.branch 0 (.branch 0 (.leaf (0, .add (.var 4195458) (.num 1))) (.leaf (10, .num 4195394))) (.leaf (10, .num 4195394))) (.leaf (10, .num 4195394)))) j).2 := fun j hj => hR.2.1 _ (List.mem_cons_of_mem _ List.mem_cons_self) (4195394, 8, 207) (List.mem_cons_of_mem _ List.mem_cons_self) rfl j hj
          have fD2 : ∀ s : Nat, s < 8 → s ≠ (S p).toNat → r2 (4195394 + 64 * s) = D s := fun s hs hn => ((fD s (by omega)).trans (yb48_d1 r s hs (by omega))).trans (m5 s hs)
          have t0 : (7 : Int) ≤ r 1048704 ∧ r 1048704 ≤ (7 : Int) := hR.2.2.1 _ List.mem_cons_self
          exact hE0 (yb48a_e hv (by omega)) r2 hr2 G2 trivial
        · have a1048577 : r2 1048577 = r 1048577 := yas hR List.mem_cons_self
          have a1048640 : r2 1048640 = r 1048640 := yas hR (List.mem_cons_of_mem _ List.mem_cons_self)
          have a1048704 : r2 1048704 = (r 1048704 + (1 : Int)) := yas hR (List.mem_cons_of_mem _ (List.mem_cons_of_mem _ List.mem_cons_self))
          have fS : ∀ j : Nat, j < 16 → r2 (4194310 + 64 * j) = (bif decide (r 1048960 = (j : Int)) then ((0, -1) : ycV) else (0, r (4194310 + 64 * j))).2 := fun j hj => hR.2.1 _ List.mem_cons_self (4194310, 16, 217) List.mem_cons_self rfl j hj
          have fD : ∀ j : Nat, j < 8 → r2 (4195394 + 64 * j) = (xct r (.branch 0 (.leaf (10, .num 4195394)) (.branch 0 (.branch 0 (.branch 0 (.leaf (0, .add (.var 4195458) (.num 1))) (.leaf (10, .num 4195394))) (.leaf (10, .num 4195394))) (.leaf (10, .num 4195394)))) j).2 := fun j hj => hR.2.1 _ (List.mem_cons_of_mem _ List.mem_cons_self) (4195394, 8, 207) (List.mem_cons_of_mem _ List.mem_cons_self) rfl j hj
          have fD2 : ∀ s : Nat, s < 8 → s ≠ (S p).toNat → r2 (4195394 + 64 * s) = D s := fun s hs hn => ((fD s (by omega)).trans (yb48_d1 r s hs (by omega))).trans (m5 s hs)
          have t1 : (0 : Int) ≤ r 1048704 ∧ r 1048704 ≤ (6 : Int) := hR.2.2.1 _ (List.mem_cons_of_mem _ List.mem_cons_self)
          have hv2 := yb48a_n hv (by omega) (by decide)
          exact hC r2 w x (f + 1) (yb48u S p (-1)) (fun s => r2 (4195394 + 64 * s)) hr2 G2 trivial ⟨aw, a1048577.trans m2, by omega, fun k hk => yb48_fu (fS k (by omega)) hup rfl (m4 k hk), fun _ _ => rfl, yb48J_step m6 hp (by omega) fD2 (by decide)⟩ (by omega) hv2
        · have a1048640 : r2 1048640 = r 1048640 := yas hR List.mem_cons_self
          have a1048704 : r2 1048704 = (r 1048704 + (1 : Int)) := yas hR (List.mem_cons_of_mem _ List.mem_cons_self)
          have fS : ∀ j : Nat, j < 16 → r2 (4194310 + 64 * j) = (bif decide (r 1048960 = (j : Int)) then ((0, -1) : ycV) else (0, r (4194310 + 64 * j))).2 := fun j hj => hR.2.1 _ List.mem_cons_self (4194310, 16, 217) List.mem_cons_self rfl j hj
          have fD : ∀ j : Nat, j < 8 → r2 (4195394 + 64 * j) = (xct r (.branch 0 (.leaf (10, .num 4195394)) (.branch 0 (.branch 0 (.branch 0 (.leaf (0, .add (.var 4195458) (.num 1))) (.leaf (10, .num 4195394))) (.leaf (10, .num 4195394))) (.leaf (10, .num 4195394)))) j).2 := fun j hj => hR.2.1 _ (List.mem_cons_of_mem _ List.mem_cons_self) (4195394, 8, 207) (List.mem_cons_of_mem _ List.mem_cons_self) rfl j hj
          have fD2 : ∀ s : Nat, s < 8 → s ≠ (S p).toNat → r2 (4195394 + 64 * s) = D s := fun s hs hn => ((fD s (by omega)).trans (yb48_d1 r s hs (by omega))).trans (m5 s hs)
          have t1 : (0 : Int) ≤ r 1048704 ∧ r 1048704 ≤ (6 : Int) := hR.2.2.1 _ (List.mem_cons_of_mem _ List.mem_cons_self)
          have hv2 := yb48a_n hv (by omega) (by decide)
          have t0 : (20000 : Int) ≤ r 1048640 ∧ r 1048640 ≤ (20000 : Int) := hR.2.2.1 _ List.mem_cons_self
          have hn : n = 0 := by omega
          subst hn
          exact hE3 (yb48_0 hv2) r2 hr2 G2 trivial
      · have hv := yb48w_s hy (by omega)
        have ed : r 4195522 = 0 := (m5 2 (by decide)).trans (by
          have z := m6.2.2.1 p hp (by omega)
          rw [e] at z
          exact z)
        have H1 := xHc (e := .sub (.var 128) (.var 1048960)) (lo := 1) (hi := 16) H (show (1 : Int) ≤ (r 128 - r 1048960) by omega) (show (r 128 - r 1048960) ≤ (16 : Int) by omega)
        have H2 := xHc (e := .sub (.var 1048960) (.var 1049024)) (lo := 0) (hi := 0) H1 (show (0 : Int) ≤ (r 1048960 - r 1049024) by omega) (show (r 1048960 - r 1049024) ≤ (0 : Int) by omega)
        have H3 := xHc (e := .pow (.sub (.num 4194310) (.var 1048960)) 0) (lo := 2) (hi := 2) H2 (show (2 : Int) ≤ r (4194310 + 64 * (r 1048960).toNat) by omega) (show r (4194310 + 64 * (r 1048960).toNat) ≤ (2 : Int) by omega)
        have H4 := xHc (e := .var 4195522) (lo := 0) (hi := 0) H3 (show (0 : Int) ≤ r 4195522 by omega) (show r 4195522 ≤ (0 : Int) by omega)
        refine yz_run hL yq48_W1s2 hr H4 (xcut_s fun c hc r2 G2 hR => ?_)
        have hr2 : yzr L xs r2 := fun i hi => by rw [hR.2.2.2 i hi]; exact hr i hi
        have aw : r2 128 = w := (hR.2.2.2 128 (by decide)).trans m1
        simp only [List.mem_cons, List.not_mem_nil, or_false] at hc
        rcases hc with rfl | rfl | rfl
        · have a1048640 : r2 1048640 = r 1048640 := yas hR List.mem_cons_self
          have a1048704 : r2 1048704 = (r 1048704 + (1 : Int)) := yas hR (List.mem_cons_of_mem _ List.mem_cons_self)
          have fS : ∀ j : Nat, j < 16 → r2 (4194310 + 64 * j) = (bif decide (r 1048960 = (j : Int)) then ((0, -1) : ycV) else (0, r (4194310 + 64 * j))).2 := fun j hj => hR.2.1 _ List.mem_cons_self (4194310, 16, 217) List.mem_cons_self rfl j hj
          have fD : ∀ j : Nat, j < 8 → r2 (4195394 + 64 * j) = (xct r (.branch 0 (.branch 0 (.leaf (10, .num 4195394)) (.branch 0 (.branch 0 (.leaf (0, .add (.var 4195522) (.num 1))) (.leaf (10, .num 4195394))) (.leaf (10, .num 4195394)))) (.leaf (10, .num 4195394))) j).2 := fun j hj => hR.2.1 _ (List.mem_cons_of_mem _ List.mem_cons_self) (4195394, 8, 207) (List.mem_cons_of_mem _ List.mem_cons_self) rfl j hj
          have fD2 : ∀ s : Nat, s < 8 → s ≠ (S p).toNat → r2 (4195394 + 64 * s) = D s := fun s hs hn => ((fD s (by omega)).trans (yb48_d2 r s hs (by omega))).trans (m5 s hs)
          have t0 : (7 : Int) ≤ r 1048704 ∧ r 1048704 ≤ (7 : Int) := hR.2.2.1 _ List.mem_cons_self
          exact hE0 (yb48a_e hv (by omega)) r2 hr2 G2 trivial
        · have a1048577 : r2 1048577 = r 1048577 := yas hR List.mem_cons_self
          have a1048640 : r2 1048640 = r 1048640 := yas hR (List.mem_cons_of_mem _ List.mem_cons_self)
          have a1048704 : r2 1048704 = (r 1048704 + (1 : Int)) := yas hR (List.mem_cons_of_mem _ (List.mem_cons_of_mem _ List.mem_cons_self))
          have fS : ∀ j : Nat, j < 16 → r2 (4194310 + 64 * j) = (bif decide (r 1048960 = (j : Int)) then ((0, -1) : ycV) else (0, r (4194310 + 64 * j))).2 := fun j hj => hR.2.1 _ List.mem_cons_self (4194310, 16, 217) List.mem_cons_self rfl j hj
          have fD : ∀ j : Nat, j < 8 → r2 (4195394 + 64 * j) = (xct r (.branch 0 (.branch 0 (.leaf (10, .num 4195394)) (.branch 0 (.branch 0 (.leaf (0, .add (.var 4195522) (.num 1))) (.leaf (10, .num 4195394))) (.leaf (10, .num 4195394)))) (.leaf (10, .num 4195394))) j).2 := fun j hj => hR.2.1 _ (List.mem_cons_of_mem _ List.mem_cons_self) (4195394, 8, 207) (List.mem_cons_of_mem _ List.mem_cons_self) rfl j hj
          have fD2 : ∀ s : Nat, s < 8 → s ≠ (S p).toNat → r2 (4195394 + 64 * s) = D s := fun s hs hn => ((fD s (by omega)).trans (yb48_d2 r s hs (by omega))).trans (m5 s hs)
          have t1 : (0 : Int) ≤ r 1048704 ∧ r 1048704 ≤ (6 : Int) := hR.2.2.1 _ (List.mem_cons_of_mem _ List.mem_cons_self)
          have hv2 := yb48a_n hv (by omega) (by decide)
          exact hC r2 w x (f + 1) (yb48u S p (-1)) (fun s => r2 (4195394 + 64 * s)) hr2 G2 trivial ⟨aw, a1048577.trans m2, by omega, fun k hk => yb48_fu (fS k (by omega)) hup rfl (m4 k hk), fun _ _ => rfl, yb48J_step m6 hp (by omega) fD2 (by decide)⟩ (by omega) hv2
        · have a1048640 : r2 1048640 = r 1048640 := yas hR List.mem_cons_self
          have a1048704 : r2 1048704 = (r 1048704 + (1 : Int)) := yas hR (List.mem_cons_of_mem _ List.mem_cons_self)
          have fS : ∀ j : Nat, j < 16 → r2 (4194310 + 64 * j) = (bif decide (r 1048960 = (j : Int)) then ((0, -1) : ycV) else (0, r (4194310 + 64 * j))).2 := fun j hj => hR.2.1 _ List.mem_cons_self (4194310, 16, 217) List.mem_cons_self rfl j hj
          have fD : ∀ j : Nat, j < 8 → r2 (4195394 + 64 * j) = (xct r (.branch 0 (.branch 0 (.leaf (10, .num 4195394)) (.branch 0 (.branch 0 (.leaf (0, .add (.var 4195522) (.num 1))) (.leaf (10, .num 4195394))) (.leaf (10, .num 4195394)))) (.leaf (10, .num 4195394))) j).2 := fun j hj => hR.2.1 _ (List.mem_cons_of_mem _ List.mem_cons_self) (4195394, 8, 207) (List.mem_cons_of_mem _ List.mem_cons_self) rfl j hj
          have fD2 : ∀ s : Nat, s < 8 → s ≠ (S p).toNat → r2 (4195394 + 64 * s) = D s := fun s hs hn => ((fD s (by omega)).trans (yb48_d2 r s hs (by omega))).trans (m5 s hs)
          have t1 : (0 : Int) ≤ r 1048704 ∧ r 1048704 ≤ (6 : Int) := hR.2.2.1 _ (List.mem_cons_of_mem _ List.mem_cons_self)
          have hv2 := yb48a_n hv (by omega) (by decide)
          have t0 : (20000 : Int) ≤ r 1048640 ∧ r 1048640 ≤ (20000 : Int) := hR.2.2.1 _ List.mem_cons_self
          have hn : n = 0 := by omega
          subst hn
          exact hE3 (yb48_0 hv2) r2 hr2 G2 trivial
      · have hv := yb48w_s hy (by omega)
        have ed : r 4195586 = 0 := (m5 3 (by decide)).trans (by
          have z := m6.2.2.1 p hp (by omega)
          rw [e] at z
          exact z)
        have H1 := xHc (e := .sub (.var 128) (.var 1048960)) (lo := 1) (hi := 16) H (show (1 : Int) ≤ (r 128 - r 1048960) by omega) (show (r 128 - r 1048960) ≤ (16 : Int) by omega)
        have H2 := xHc (e := .sub (.var 1048960) (.var 1049024)) (lo := 0) (hi := 0) H1 (show (0 : Int) ≤ (r 1048960 - r 1049024) by omega) (show (r 1048960 - r 1049024) ≤ (0 : Int) by omega)
        have H3 := xHc (e := .pow (.sub (.num 4194310) (.var 1048960)) 0) (lo := 3) (hi := 3) H2 (show (3 : Int) ≤ r (4194310 + 64 * (r 1048960).toNat) by omega) (show r (4194310 + 64 * (r 1048960).toNat) ≤ (3 : Int) by omega)
        have H4 := xHc (e := .var 4195586) (lo := 0) (hi := 0) H3 (show (0 : Int) ≤ r 4195586 by omega) (show r 4195586 ≤ (0 : Int) by omega)
        refine yz_run hL yq48_W1s3 hr H4 (xcut_s fun c hc r2 G2 hR => ?_)
        have hr2 : yzr L xs r2 := fun i hi => by rw [hR.2.2.2 i hi]; exact hr i hi
        have aw : r2 128 = w := (hR.2.2.2 128 (by decide)).trans m1
        simp only [List.mem_cons, List.not_mem_nil, or_false] at hc
        rcases hc with rfl | rfl | rfl
        · have a1048640 : r2 1048640 = r 1048640 := yas hR List.mem_cons_self
          have a1048704 : r2 1048704 = (r 1048704 + (1 : Int)) := yas hR (List.mem_cons_of_mem _ List.mem_cons_self)
          have fS : ∀ j : Nat, j < 16 → r2 (4194310 + 64 * j) = (bif decide (r 1048960 = (j : Int)) then ((0, -1) : ycV) else (0, r (4194310 + 64 * j))).2 := fun j hj => hR.2.1 _ List.mem_cons_self (4194310, 16, 217) List.mem_cons_self rfl j hj
          have fD : ∀ j : Nat, j < 8 → r2 (4195394 + 64 * j) = (xct r (.branch 0 (.leaf (10, .num 4195394)) (.branch 0 (.leaf (10, .num 4195394)) (.branch 0 (.branch 0 (.leaf (0, .add (.var 4195586) (.num 1))) (.leaf (10, .num 4195394))) (.leaf (10, .num 4195394))))) j).2 := fun j hj => hR.2.1 _ (List.mem_cons_of_mem _ List.mem_cons_self) (4195394, 8, 207) (List.mem_cons_of_mem _ List.mem_cons_self) rfl j hj
          have fD2 : ∀ s : Nat, s < 8 → s ≠ (S p).toNat → r2 (4195394 + 64 * s) = D s := fun s hs hn => ((fD s (by omega)).trans (yb48_d3 r s hs (by omega))).trans (m5 s hs)
          have t0 : (7 : Int) ≤ r 1048704 ∧ r 1048704 ≤ (7 : Int) := hR.2.2.1 _ List.mem_cons_self
          exact hE0 (yb48a_e hv (by omega)) r2 hr2 G2 trivial
        · have a1048577 : r2 1048577 = r 1048577 := yas hR List.mem_cons_self
          have a1048640 : r2 1048640 = r 1048640 := yas hR (List.mem_cons_of_mem _ List.mem_cons_self)
          have a1048704 : r2 1048704 = (r 1048704 + (1 : Int)) := yas hR (List.mem_cons_of_mem _ (List.mem_cons_of_mem _ List.mem_cons_self))
          have fS : ∀ j : Nat, j < 16 → r2 (4194310 + 64 * j) = (bif decide (r 1048960 = (j : Int)) then ((0, -1) : ycV) else (0, r (4194310 + 64 * j))).2 := fun j hj => hR.2.1 _ List.mem_cons_self (4194310, 16, 217) List.mem_cons_self rfl j hj
          have fD : ∀ j : Nat, j < 8 → r2 (4195394 + 64 * j) = (xct r (.branch 0 (.leaf (10, .num 4195394)) (.branch 0 (.leaf (10, .num 4195394)) (.branch 0 (.branch 0 (.leaf (0, .add (.var 4195586) (.num 1))) (.leaf (10, .num 4195394))) (.leaf (10, .num 4195394))))) j).2 := fun j hj => hR.2.1 _ (List.mem_cons_of_mem _ List.mem_cons_self) (4195394, 8, 207) (List.mem_cons_of_mem _ List.mem_cons_self) rfl j hj
          have fD2 : ∀ s : Nat, s < 8 → s ≠ (S p).toNat → r2 (4195394 + 64 * s) = D s := fun s hs hn => ((fD s (by omega)).trans (yb48_d3 r s hs (by omega))).trans (m5 s hs)
          have t1 : (0 : Int) ≤ r 1048704 ∧ r 1048704 ≤ (6 : Int) := hR.2.2.1 _ (List.mem_cons_of_mem _ List.mem_cons_self)
          have hv2 := yb48a_n hv (by omega) (by decide)
          exact hC r2 w x (f + 1) (yb48u S p (-1)) (fun s => r2 (4195394 + 64 * s)) hr2 G2 trivial ⟨aw, a1048577.trans m2, by omega, fun k hk => yb48_fu (fS k (by omega)) hup rfl (m4 k hk), fun _ _ => rfl, yb48J_step m6 hp (by omega) fD2 (by decide)⟩ (by omega) hv2
        · have a1048640 : r2 1048640 = r 1048640 := yas hR List.mem_cons_self
          have a1048704 : r2 1048704 = (r 1048704 + (1 : Int)) := yas hR (List.mem_cons_of_mem _ List.mem_cons_self)
          have fS : ∀ j : Nat, j < 16 → r2 (4194310 + 64 * j) = (bif decide (r 1048960 = (j : Int)) then ((0, -1) : ycV) else (0, r (4194310 + 64 * j))).2 := fun j hj => hR.2.1 _ List.mem_cons_self (4194310, 16, 217) List.mem_cons_self rfl j hj
          have fD : ∀ j : Nat, j < 8 → r2 (4195394 + 64 * j) = (xct r (.branch 0 (.leaf (10, .num 4195394)) (.branch 0 (.leaf (10, .num 4195394)) (.branch 0 (.branch 0 (.leaf (0, .add (.var 4195586) (.num 1))) (.leaf (10, .num 4195394))) (.leaf (10, .num 4195394))))) j).2 := fun j hj => hR.2.1 _ (List.mem_cons_of_mem _ List.mem_cons_self) (4195394, 8, 207) (List.mem_cons_of_mem _ List.mem_cons_self) rfl j hj
          have fD2 : ∀ s : Nat, s < 8 → s ≠ (S p).toNat → r2 (4195394 + 64 * s) = D s := fun s hs hn => ((fD s (by omega)).trans (yb48_d3 r s hs (by omega))).trans (m5 s hs)
          have t1 : (0 : Int) ≤ r 1048704 ∧ r 1048704 ≤ (6 : Int) := hR.2.2.1 _ (List.mem_cons_of_mem _ List.mem_cons_self)
          have hv2 := yb48a_n hv (by omega) (by decide)
          have t0 : (20000 : Int) ≤ r 1048640 ∧ r 1048640 ≤ (20000 : Int) := hR.2.2.1 _ List.mem_cons_self
          have hn : n = 0 := by omega
          subst hn
          exact hE3 (yb48_0 hv2) r2 hr2 G2 trivial
      · have hv := yb48w_s hy (by omega)
        have ed : r 4195650 = 0 := (m5 4 (by decide)).trans (by
          have z := m6.2.2.1 p hp (by omega)
          rw [e] at z
          exact z)
        have H1 := xHc (e := .sub (.var 128) (.var 1048960)) (lo := 1) (hi := 16) H (show (1 : Int) ≤ (r 128 - r 1048960) by omega) (show (r 128 - r 1048960) ≤ (16 : Int) by omega)
        have H2 := xHc (e := .sub (.var 1048960) (.var 1049024)) (lo := 0) (hi := 0) H1 (show (0 : Int) ≤ (r 1048960 - r 1049024) by omega) (show (r 1048960 - r 1049024) ≤ (0 : Int) by omega)
        have H3 := xHc (e := .pow (.sub (.num 4194310) (.var 1048960)) 0) (lo := 4) (hi := 4) H2 (show (4 : Int) ≤ r (4194310 + 64 * (r 1048960).toNat) by omega) (show r (4194310 + 64 * (r 1048960).toNat) ≤ (4 : Int) by omega)
        have H4 := xHc (e := .var 4195650) (lo := 0) (hi := 0) H3 (show (0 : Int) ≤ r 4195650 by omega) (show r 4195650 ≤ (0 : Int) by omega)
        refine yz_run hL yq48_W1s4 hr H4 (xcut_s fun c hc r2 G2 hR => ?_)
        have hr2 : yzr L xs r2 := fun i hi => by rw [hR.2.2.2 i hi]; exact hr i hi
        have aw : r2 128 = w := (hR.2.2.2 128 (by decide)).trans m1
        simp only [List.mem_cons, List.not_mem_nil, or_false] at hc
        rcases hc with rfl | rfl | rfl
        · have a1048640 : r2 1048640 = r 1048640 := yas hR List.mem_cons_self
          have a1048704 : r2 1048704 = (r 1048704 + (1 : Int)) := yas hR (List.mem_cons_of_mem _ List.mem_cons_self)
          have fS : ∀ j : Nat, j < 16 → r2 (4194310 + 64 * j) = (bif decide (r 1048960 = (j : Int)) then ((0, -1) : ycV) else (0, r (4194310 + 64 * j))).2 := fun j hj => hR.2.1 _ List.mem_cons_self (4194310, 16, 217) List.mem_cons_self rfl j hj
          have fD : ∀ j : Nat, j < 8 → r2 (4195394 + 64 * j) = (xct r (.branch 0 (.branch 0 (.branch 0 (.leaf (10, .num 4195394)) (.branch 0 (.leaf (0, .add (.var 4195650) (.num 1))) (.leaf (10, .num 4195394)))) (.leaf (10, .num 4195394))) (.leaf (10, .num 4195394))) j).2 := fun j hj => hR.2.1 _ (List.mem_cons_of_mem _ List.mem_cons_self) (4195394, 8, 207) (List.mem_cons_of_mem _ List.mem_cons_self) rfl j hj
          have fD2 : ∀ s : Nat, s < 8 → s ≠ (S p).toNat → r2 (4195394 + 64 * s) = D s := fun s hs hn => ((fD s (by omega)).trans (yb48_d4 r s hs (by omega))).trans (m5 s hs)
          have t0 : (7 : Int) ≤ r 1048704 ∧ r 1048704 ≤ (7 : Int) := hR.2.2.1 _ List.mem_cons_self
          exact hE0 (yb48a_e hv (by omega)) r2 hr2 G2 trivial
        · have a1048577 : r2 1048577 = r 1048577 := yas hR List.mem_cons_self
          have a1048640 : r2 1048640 = r 1048640 := yas hR (List.mem_cons_of_mem _ List.mem_cons_self)
          have a1048704 : r2 1048704 = (r 1048704 + (1 : Int)) := yas hR (List.mem_cons_of_mem _ (List.mem_cons_of_mem _ List.mem_cons_self))
          have fS : ∀ j : Nat, j < 16 → r2 (4194310 + 64 * j) = (bif decide (r 1048960 = (j : Int)) then ((0, -1) : ycV) else (0, r (4194310 + 64 * j))).2 := fun j hj => hR.2.1 _ List.mem_cons_self (4194310, 16, 217) List.mem_cons_self rfl j hj
          have fD : ∀ j : Nat, j < 8 → r2 (4195394 + 64 * j) = (xct r (.branch 0 (.branch 0 (.branch 0 (.leaf (10, .num 4195394)) (.branch 0 (.leaf (0, .add (.var 4195650) (.num 1))) (.leaf (10, .num 4195394)))) (.leaf (10, .num 4195394))) (.leaf (10, .num 4195394))) j).2 := fun j hj => hR.2.1 _ (List.mem_cons_of_mem _ List.mem_cons_self) (4195394, 8, 207) (List.mem_cons_of_mem _ List.mem_cons_self) rfl j hj
          have fD2 : ∀ s : Nat, s < 8 → s ≠ (S p).toNat → r2 (4195394 + 64 * s) = D s := fun s hs hn => ((fD s (by omega)).trans (yb48_d4 r s hs (by omega))).trans (m5 s hs)
          have t1 : (0 : Int) ≤ r 1048704 ∧ r 1048704 ≤ (6 : Int) := hR.2.2.1 _ (List.mem_cons_of_mem _ List.mem_cons_self)
          have hv2 := yb48a_n hv (by omega) (by decide)
          exact hC r2 w x (f + 1) (yb48u S p (-1)) (fun s => r2 (4195394 + 64 * s)) hr2 G2 trivial ⟨aw, a1048577.trans m2, by omega, fun k hk => yb48_fu (fS k (by omega)) hup rfl (m4 k hk), fun _ _ => rfl, yb48J_step m6 hp (by omega) fD2 (by decide)⟩ (by omega) hv2
        · have a1048640 : r2 1048640 = r 1048640 := yas hR List.mem_cons_self
          have a1048704 : r2 1048704 = (r 1048704 + (1 : Int)) := yas hR (List.mem_cons_of_mem _ List.mem_cons_self)
          have fS : ∀ j : Nat, j < 16 → r2 (4194310 + 64 * j) = (bif decide (r 1048960 = (j : Int)) then ((0, -1) : ycV) else (0, r (4194310 + 64 * j))).2 := fun j hj => hR.2.1 _ List.mem_cons_self (4194310, 16, 217) List.mem_cons_self rfl j hj
          have fD : ∀ j : Nat, j < 8 → r2 (4195394 + 64 * j) = (xct r (.branch 0 (.branch 0 (.branch 0 (.leaf (10, .num 4195394)) (.branch 0 (.leaf (0, .add (.var 4195650) (.num 1))) (.leaf (10, .num 4195394)))) (.leaf (10, .num 4195394))) (.leaf (10, .num 4195394))) j).2 := fun j hj => hR.2.1 _ (List.mem_cons_of_mem _ List.mem_cons_self) (4195394, 8, 207) (List.mem_cons_of_mem _ List.mem_cons_self) rfl j hj
          have fD2 : ∀ s : Nat, s < 8 → s ≠ (S p).toNat → r2 (4195394 + 64 * s) = D s := fun s hs hn => ((fD s (by omega)).trans (yb48_d4 r s hs (by omega))).trans (m5 s hs)
          have t1 : (0 : Int) ≤ r 1048704 ∧ r 1048704 ≤ (6 : Int) := hR.2.2.1 _ (List.mem_cons_of_mem _ List.mem_cons_self)
          have hv2 := yb48a_n hv (by omega) (by decide)
          have t0 : (20000 : Int) ≤ r 1048640 ∧ r 1048640 ≤ (20000 : Int) := hR.2.2.1 _ List.mem_cons_self
          have hn : n = 0 := by omega
          subst hn
          exact hE3 (yb48_0 hv2) r2 hr2 G2 trivial
      · have hv := yb48w_s hy (by omega)
        have ed : r 4195714 = 0 := (m5 5 (by decide)).trans (by
          have z := m6.2.2.1 p hp (by omega)
          rw [e] at z
          exact z)
        have H1 := xHc (e := .sub (.var 128) (.var 1048960)) (lo := 1) (hi := 16) H (show (1 : Int) ≤ (r 128 - r 1048960) by omega) (show (r 128 - r 1048960) ≤ (16 : Int) by omega)
        have H2 := xHc (e := .sub (.var 1048960) (.var 1049024)) (lo := 0) (hi := 0) H1 (show (0 : Int) ≤ (r 1048960 - r 1049024) by omega) (show (r 1048960 - r 1049024) ≤ (0 : Int) by omega)
        have H3 := xHc (e := .pow (.sub (.num 4194310) (.var 1048960)) 0) (lo := 5) (hi := 5) H2 (show (5 : Int) ≤ r (4194310 + 64 * (r 1048960).toNat) by omega) (show r (4194310 + 64 * (r 1048960).toNat) ≤ (5 : Int) by omega)
        have H4 := xHc (e := .var 4195714) (lo := 0) (hi := 0) H3 (show (0 : Int) ≤ r 4195714 by omega) (show r 4195714 ≤ (0 : Int) by omega)
        refine yz_run hL yq48_W1s5 hr H4 (xcut_s fun c hc r2 G2 hR => ?_)
        have hr2 : yzr L xs r2 := fun i hi => by rw [hR.2.2.2 i hi]; exact hr i hi
        have aw : r2 128 = w := (hR.2.2.2 128 (by decide)).trans m1
        simp only [List.mem_cons, List.not_mem_nil, or_false] at hc
        rcases hc with rfl | rfl | rfl
        · have a1048640 : r2 1048640 = r 1048640 := yas hR List.mem_cons_self
          have a1048704 : r2 1048704 = (r 1048704 + (1 : Int)) := yas hR (List.mem_cons_of_mem _ List.mem_cons_self)
          have fS : ∀ j : Nat, j < 16 → r2 (4194310 + 64 * j) = (bif decide (r 1048960 = (j : Int)) then ((0, -1) : ycV) else (0, r (4194310 + 64 * j))).2 := fun j hj => hR.2.1 _ List.mem_cons_self (4194310, 16, 217) List.mem_cons_self rfl j hj
          have fD : ∀ j : Nat, j < 8 → r2 (4195394 + 64 * j) = (xct r (.branch 0 (.leaf (10, .num 4195394)) (.branch 0 (.branch 0 (.leaf (10, .num 4195394)) (.branch 0 (.leaf (0, .add (.var 4195714) (.num 1))) (.leaf (10, .num 4195394)))) (.leaf (10, .num 4195394)))) j).2 := fun j hj => hR.2.1 _ (List.mem_cons_of_mem _ List.mem_cons_self) (4195394, 8, 207) (List.mem_cons_of_mem _ List.mem_cons_self) rfl j hj
          have fD2 : ∀ s : Nat, s < 8 → s ≠ (S p).toNat → r2 (4195394 + 64 * s) = D s := fun s hs hn => ((fD s (by omega)).trans (yb48_d5 r s hs (by omega))).trans (m5 s hs)
          have t0 : (7 : Int) ≤ r 1048704 ∧ r 1048704 ≤ (7 : Int) := hR.2.2.1 _ List.mem_cons_self
          exact hE0 (yb48a_e hv (by omega)) r2 hr2 G2 trivial
        · have a1048577 : r2 1048577 = r 1048577 := yas hR List.mem_cons_self
          have a1048640 : r2 1048640 = r 1048640 := yas hR (List.mem_cons_of_mem _ List.mem_cons_self)
          have a1048704 : r2 1048704 = (r 1048704 + (1 : Int)) := yas hR (List.mem_cons_of_mem _ (List.mem_cons_of_mem _ List.mem_cons_self))
          have fS : ∀ j : Nat, j < 16 → r2 (4194310 + 64 * j) = (bif decide (r 1048960 = (j : Int)) then ((0, -1) : ycV) else (0, r (4194310 + 64 * j))).2 := fun j hj => hR.2.1 _ List.mem_cons_self (4194310, 16, 217) List.mem_cons_self rfl j hj
          have fD : ∀ j : Nat, j < 8 → r2 (4195394 + 64 * j) = (xct r (.branch 0 (.leaf (10, .num 4195394)) (.branch 0 (.branch 0 (.leaf (10, .num 4195394)) (.branch 0 (.leaf (0, .add (.var 4195714) (.num 1))) (.leaf (10, .num 4195394)))) (.leaf (10, .num 4195394)))) j).2 := fun j hj => hR.2.1 _ (List.mem_cons_of_mem _ List.mem_cons_self) (4195394, 8, 207) (List.mem_cons_of_mem _ List.mem_cons_self) rfl j hj
          have fD2 : ∀ s : Nat, s < 8 → s ≠ (S p).toNat → r2 (4195394 + 64 * s) = D s := fun s hs hn => ((fD s (by omega)).trans (yb48_d5 r s hs (by omega))).trans (m5 s hs)
          have t1 : (0 : Int) ≤ r 1048704 ∧ r 1048704 ≤ (6 : Int) := hR.2.2.1 _ (List.mem_cons_of_mem _ List.mem_cons_self)
          have hv2 := yb48a_n hv (by omega) (by decide)
          exact hC r2 w x (f + 1) (yb48u S p (-1)) (fun s => r2 (4195394 + 64 * s)) hr2 G2 trivial ⟨aw, a1048577.trans m2, by omega, fun k hk => yb48_fu (fS k (by omega)) hup rfl (m4 k hk), fun _ _ => rfl, yb48J_step m6 hp (by omega) fD2 (by decide)⟩ (by omega) hv2
        · have a1048640 : r2 1048640 = r 1048640 := yas hR List.mem_cons_self
          have a1048704 : r2 1048704 = (r 1048704 + (1 : Int)) := yas hR (List.mem_cons_of_mem _ List.mem_cons_self)
          have fS : ∀ j : Nat, j < 16 → r2 (4194310 + 64 * j) = (bif decide (r 1048960 = (j : Int)) then ((0, -1) : ycV) else (0, r (4194310 + 64 * j))).2 := fun j hj => hR.2.1 _ List.mem_cons_self (4194310, 16, 217) List.mem_cons_self rfl j hj
          have fD : ∀ j : Nat, j < 8 → r2 (4195394 + 64 * j) = (xct r (.branch 0 (.leaf (10, .num 4195394)) (.branch 0 (.branch 0 (.leaf (10, .num 4195394)) (.branch 0 (.leaf (0, .add (.var 4195714) (.num 1))) (.leaf (10, .num 4195394)))) (.leaf (10, .num 4195394)))) j).2 := fun j hj => hR.2.1 _ (List.mem_cons_of_mem _ List.mem_cons_self) (4195394, 8, 207) (List.mem_cons_of_mem _ List.mem_cons_self) rfl j hj
          have fD2 : ∀ s : Nat, s < 8 → s ≠ (S p).toNat → r2 (4195394 + 64 * s) = D s := fun s hs hn => ((fD s (by omega)).trans (yb48_d5 r s hs (by omega))).trans (m5 s hs)
          have t1 : (0 : Int) ≤ r 1048704 ∧ r 1048704 ≤ (6 : Int) := hR.2.2.1 _ (List.mem_cons_of_mem _ List.mem_cons_self)
          have hv2 := yb48a_n hv (by omega) (by decide)
          have t0 : (20000 : Int) ≤ r 1048640 ∧ r 1048640 ≤ (20000 : Int) := hR.2.2.1 _ List.mem_cons_self
          have hn : n = 0 := by omega
          subst hn
          exact hE3 (yb48_0 hv2) r2 hr2 G2 trivial
      · have hv := yb48w_s hy (by omega)
        have ed : r 4195778 = 0 := (m5 6 (by decide)).trans (by
          have z := m6.2.2.1 p hp (by omega)
          rw [e] at z
          exact z)
        have H1 := xHc (e := .sub (.var 128) (.var 1048960)) (lo := 1) (hi := 16) H (show (1 : Int) ≤ (r 128 - r 1048960) by omega) (show (r 128 - r 1048960) ≤ (16 : Int) by omega)
        have H2 := xHc (e := .sub (.var 1048960) (.var 1049024)) (lo := 0) (hi := 0) H1 (show (0 : Int) ≤ (r 1048960 - r 1049024) by omega) (show (r 1048960 - r 1049024) ≤ (0 : Int) by omega)
        have H3 := xHc (e := .pow (.sub (.num 4194310) (.var 1048960)) 0) (lo := 6) (hi := 6) H2 (show (6 : Int) ≤ r (4194310 + 64 * (r 1048960).toNat) by omega) (show r (4194310 + 64 * (r 1048960).toNat) ≤ (6 : Int) by omega)
        have H4 := xHc (e := .var 4195778) (lo := 0) (hi := 0) H3 (show (0 : Int) ≤ r 4195778 by omega) (show r 4195778 ≤ (0 : Int) by omega)
        refine yz_run hL yq48_W1s6 hr H4 (xcut_s fun c hc r2 G2 hR => ?_)
        have hr2 : yzr L xs r2 := fun i hi => by rw [hR.2.2.2 i hi]; exact hr i hi
        have aw : r2 128 = w := (hR.2.2.2 128 (by decide)).trans m1
        simp only [List.mem_cons, List.not_mem_nil, or_false] at hc
        rcases hc with rfl | rfl | rfl
        · have a1048640 : r2 1048640 = r 1048640 := yas hR List.mem_cons_self
          have a1048704 : r2 1048704 = (r 1048704 + (1 : Int)) := yas hR (List.mem_cons_of_mem _ List.mem_cons_self)
          have fS : ∀ j : Nat, j < 16 → r2 (4194310 + 64 * j) = (bif decide (r 1048960 = (j : Int)) then ((0, -1) : ycV) else (0, r (4194310 + 64 * j))).2 := fun j hj => hR.2.1 _ List.mem_cons_self (4194310, 16, 217) List.mem_cons_self rfl j hj
          have fD : ∀ j : Nat, j < 8 → r2 (4195394 + 64 * j) = (xct r (.branch 0 (.branch 0 (.leaf (10, .num 4195394)) (.branch 0 (.leaf (10, .num 4195394)) (.branch 0 (.leaf (0, .add (.var 4195778) (.num 1))) (.leaf (10, .num 4195394))))) (.leaf (10, .num 4195394))) j).2 := fun j hj => hR.2.1 _ (List.mem_cons_of_mem _ List.mem_cons_self) (4195394, 8, 207) (List.mem_cons_of_mem _ List.mem_cons_self) rfl j hj
          have fD2 : ∀ s : Nat, s < 8 → s ≠ (S p).toNat → r2 (4195394 + 64 * s) = D s := fun s hs hn => ((fD s (by omega)).trans (yb48_d6 r s hs (by omega))).trans (m5 s hs)
          have t0 : (7 : Int) ≤ r 1048704 ∧ r 1048704 ≤ (7 : Int) := hR.2.2.1 _ List.mem_cons_self
          exact hE0 (yb48a_e hv (by omega)) r2 hr2 G2 trivial
        · have a1048577 : r2 1048577 = r 1048577 := yas hR List.mem_cons_self
          have a1048640 : r2 1048640 = r 1048640 := yas hR (List.mem_cons_of_mem _ List.mem_cons_self)
          have a1048704 : r2 1048704 = (r 1048704 + (1 : Int)) := yas hR (List.mem_cons_of_mem _ (List.mem_cons_of_mem _ List.mem_cons_self))
          have fS : ∀ j : Nat, j < 16 → r2 (4194310 + 64 * j) = (bif decide (r 1048960 = (j : Int)) then ((0, -1) : ycV) else (0, r (4194310 + 64 * j))).2 := fun j hj => hR.2.1 _ List.mem_cons_self (4194310, 16, 217) List.mem_cons_self rfl j hj
          have fD : ∀ j : Nat, j < 8 → r2 (4195394 + 64 * j) = (xct r (.branch 0 (.branch 0 (.leaf (10, .num 4195394)) (.branch 0 (.leaf (10, .num 4195394)) (.branch 0 (.leaf (0, .add (.var 4195778) (.num 1))) (.leaf (10, .num 4195394))))) (.leaf (10, .num 4195394))) j).2 := fun j hj => hR.2.1 _ (List.mem_cons_of_mem _ List.mem_cons_self) (4195394, 8, 207) (List.mem_cons_of_mem _ List.mem_cons_self) rfl j hj
          have fD2 : ∀ s : Nat, s < 8 → s ≠ (S p).toNat → r2 (4195394 + 64 * s) = D s := fun s hs hn => ((fD s (by omega)).trans (yb48_d6 r s hs (by omega))).trans (m5 s hs)
          have t1 : (0 : Int) ≤ r 1048704 ∧ r 1048704 ≤ (6 : Int) := hR.2.2.1 _ (List.mem_cons_of_mem _ List.mem_cons_self)
          have hv2 := yb48a_n hv (by omega) (by decide)
          exact hC r2 w x (f + 1) (yb48u S p (-1)) (fun s => r2 (4195394 + 64 * s)) hr2 G2 trivial ⟨aw, a1048577.trans m2, by omega, fun k hk => yb48_fu (fS k (by omega)) hup rfl (m4 k hk), fun _ _ => rfl, yb48J_step m6 hp (by omega) fD2 (by decide)⟩ (by omega) hv2
        · have a1048640 : r2 1048640 = r 1048640 := yas hR List.mem_cons_self
          have a1048704 : r2 1048704 = (r 1048704 + (1 : Int)) := yas hR (List.mem_cons_of_mem _ List.mem_cons_self)
          have fS : ∀ j : Nat, j < 16 → r2 (4194310 + 64 * j) = (bif decide (r 1048960 = (j : Int)) then ((0, -1) : ycV) else (0, r (4194310 + 64 * j))).2 := fun j hj => hR.2.1 _ List.mem_cons_self (4194310, 16, 217) List.mem_cons_self rfl j hj
          have fD : ∀ j : Nat, j < 8 → r2 (4195394 + 64 * j) = (xct r (.branch 0 (.branch 0 (.leaf (10, .num 4195394)) (.branch 0 (.leaf (10, .num 4195394)) (.branch 0 (.leaf (0, .add (.var 4195778) (.num 1))) (.leaf (10, .num 4195394))))) (.leaf (10, .num 4195394))) j).2 := fun j hj => hR.2.1 _ (List.mem_cons_of_mem _ List.mem_cons_self) (4195394, 8, 207) (List.mem_cons_of_mem _ List.mem_cons_self) rfl j hj
          have fD2 : ∀ s : Nat, s < 8 → s ≠ (S p).toNat → r2 (4195394 + 64 * s) = D s := fun s hs hn => ((fD s (by omega)).trans (yb48_d6 r s hs (by omega))).trans (m5 s hs)
          have t1 : (0 : Int) ≤ r 1048704 ∧ r 1048704 ≤ (6 : Int) := hR.2.2.1 _ (List.mem_cons_of_mem _ List.mem_cons_self)
          have hv2 := yb48a_n hv (by omega) (by decide)
          have t0 : (20000 : Int) ≤ r 1048640 ∧ r 1048640 ≤ (20000 : Int) := hR.2.2.1 _ List.mem_cons_self
          have hn : n = 0 := by omega
          subst hn
          exact hE3 (yb48_0 hv2) r2 hr2 G2 trivial
    · have H1 := xHc (e := .sub (.var 128) (.var 1048960)) (lo := 1) (hi := 16) H (show (1 : Int) ≤ (r 128 - r 1048960) by omega) (show (r 128 - r 1048960) ≤ (16 : Int) by omega)
      have H2 := xHc (e := .sub (.var 1048960) (.var 1049024)) (lo := -15) (hi := -1) H1 (show (-15 : Int) ≤ (r 1048960 - r 1049024) by omega) (show (r 1048960 - r 1049024) ≤ (-1 : Int) by omega)
      refine yz_run hL yq48_W1n hr H2 (xcut_s fun c hc r2 G2 hR => ?_)
      have hr2 : yzr L xs r2 := fun i hi => by rw [hR.2.2.2 i hi]; exact hr i hi
      have aw : r2 128 = w := (hR.2.2.2 128 (by decide)).trans m1
      rw [List.mem_singleton] at hc
      subst hc
      have a1048577 : r2 1048577 = r 1048577 := yas hR List.mem_cons_self
      have a1049024 : r2 1049024 = r 1049024 := yas hR (List.mem_cons_of_mem _ List.mem_cons_self)
      have a1048960 : r2 1048960 = (r 1048960 + (1 : Int)) := yas hR (List.mem_cons_of_mem _ (List.mem_cons_of_mem _ List.mem_cons_self))
      have a1048640 : r2 1048640 = r 1048640 := yas hR (List.mem_cons_of_mem _ (List.mem_cons_of_mem _ (List.mem_cons_of_mem _ List.mem_cons_self)))
      have a1048704 : r2 1048704 = r 1048704 := yas hR (List.mem_cons_of_mem _ (List.mem_cons_of_mem _ (List.mem_cons_of_mem _ (List.mem_cons_of_mem _ List.mem_cons_self))))
      have fS : ∀ j : Nat, j < 16 → r2 (4194310 + 64 * j) = r (4194310 + 64 * j) := fun j hj => hR.2.1 _ List.mem_cons_self (4194310, 16, 217) List.mem_cons_self rfl j hj
      have fD : ∀ j : Nat, j < 8 → r2 (4195394 + 64 * j) = r (4195394 + 64 * j) := fun j hj => hR.2.1 _ (List.mem_cons_of_mem _ List.mem_cons_self) (4195394, 8, 207) (List.mem_cons_of_mem _ List.mem_cons_self) rfl j hj
      exact ih r2 hr2 G2 trivial ⟨aw, a1048577.trans m2, a1048704.trans m3, fun k hk => (fS k (by omega)).trans (m4 k hk), fun s hs => (fD s (by omega)).trans (m5 s hs), m6⟩ (by omega) (by omega) (by omega) (by omega)
theorem y48_C2 {L : Nat} {xs : Nat → Int32} (hL : L ≤ 3584) {y0 : Int} {n : Nat} (hW : yb48W L xs yZ0 y0 yt48_W2 yF48_W2 n 2) : yb48C L xs yZ0 y0 yt48_C2 yF48_C2 (n + 1) 2 := by
  intro r w x f S D hr H hZ hM hT hy
  obtain ⟨m1, m2, m3, m4, m5, m6⟩ := hM
  have hw : 1 ≤ r 128 ∧ r 128 ≤ 16 := xbd_s H (e := .var 128) (lo := 1) (hi := 16) (by decide +kernel)
  have hw2 : 1 ≤ w ∧ w ≤ 16 := by omega
  have H1 := xHc (e := .sub (.var 128) (.pow (.add (.pow (.add (.pow (.add (.pow (.add (.var 1048577) (.num 6364136223846793005)) 38) (.num 1442695040888963407)) 36) (.num 33)) 51) (.var 128)) 40)) (lo := 1) (hi := 16) H (by rw [xden_sub, xden_var, yb48P_d, m1, m2]; exact (yb48_w1 (yb48P_r hw2.1 hw2.2) hw2.2).1) (by rw [xden_sub, xden_var, yb48P_d, m1, m2]; exact (yb48_w1 (yb48P_r hw2.1 hw2.2) hw2.2).2)
  refine yz_run hL yq48_C2 hr H1 (xcut_s fun c hc r2 G2 hR => ?_)
  have hr2 : yzr L xs r2 := fun i hi => by rw [hR.2.2.2 i hi]; exact hr i hi
  have aw : r2 128 = w := (hR.2.2.2 128 (by decide)).trans m1
  rw [List.mem_singleton] at hc
  subst hc
  have a1048960 : r2 1048960 = (0 : Int) := yas hR (List.mem_cons_of_mem _ (List.mem_cons_of_mem _ List.mem_cons_self))
  have a1048640 : r2 1048640 = (r 1048640 + (1 : Int)) := yas hR (List.mem_cons_of_mem _ (List.mem_cons_of_mem _ (List.mem_cons_of_mem _ List.mem_cons_self)))
  have a1048704 : r2 1048704 = r 1048704 := yas hR (List.mem_cons_of_mem _ (List.mem_cons_of_mem _ (List.mem_cons_of_mem _ (List.mem_cons_of_mem _ List.mem_cons_self))))
  have fS : ∀ j : Nat, j < 16 → r2 (4194310 + 64 * j) = r (4194310 + 64 * j) := fun j hj => hR.2.1 _ List.mem_cons_self (4194310, 16, 217) List.mem_cons_self rfl j hj
  have fD : ∀ j : Nat, j < 8 → r2 (4195394 + 64 * j) = r (4195394 + 64 * j) := fun j hj => hR.2.1 _ (List.mem_cons_of_mem _ List.mem_cons_self) (4195394, 8, 207) (List.mem_cons_of_mem _ List.mem_cons_self) rfl j hj
  have o1 := hT
  have gS : ∀ k : Nat, (k : Int) < w → r2 (4194310 + 64 * k) = S k := fun k hk => (fS k (by omega)).trans (m4 k hk)
  have gD : ∀ s : Nat, s < 8 → r2 (4195394 + 64 * s) = D s := fun s hs => (fD s (by omega)).trans (m5 s hs)
  have gT : r2 1048640 + (n : Int) = 20000 := by omega
  have a1048577 : r2 1048577 = yb48X (r 1048577) := (yas hR List.mem_cons_self).trans (yb48X_d r)
  have a1049024 : r2 1049024 = yb48P (r 128) (r 1048577) := (yas hR (List.mem_cons_of_mem _ List.mem_cons_self)).trans (yb48P_d r)
  exact hW r2 w (yb48X x) f S D (yb48P w x).toNat hr2 G2 trivial ⟨aw, by rw [a1048577, m2], a1048704.trans m3, gS, gD, m6⟩ gT (yb48_w2 (yb48P_r hw2.1 hw2.2)) (by rw [a1049024, m1, m2]; exact yb48_w3 (yb48P_r hw2.1 hw2.2)) (by rw [a1048960]; exact yb48_w5 _) (yb48_t hy)
theorem y48_W2 {L : Nat} {xs : Nat → Int32} (hL : L ≤ 3584) {y0 : Int} {n : Nat} (hC : yb48C L xs yZ0 y0 yt48_C2 yF48_C2 n 2) (hC1 : yb48C L xs yZ0 y0 yt48_C1 yF48_C1 n 1) (hE0 : yb48E L xs yZ0 y0 (0) yt48_E0 yF48_E0) (hE3 : yb48E L xs yZ0 y0 (-3) yt48_E3 yF48_E3) : yb48W L xs yZ0 y0 yt48_W2 yF48_W2 n 2 := by
  intro r w x f S D p hr H hZ hM hT hp hP hU hy
  suffices main : ∀ d : Nat, ∀ r, yzr L xs r → xH r yF48_W2 → yZ0 r → yb48M r w 2 x f S D → r 1048640 + (n : Int) = 20000 → r 1049024 = (p : Int) → r 1048960 ≤ (p : Int) → (p : Int) - r 1048960 < (d : Int) → xGl (yfT (ykold L xs)) r yzP yt48_W2 from
    main (p + 1) r hr H hZ hM hT hP hU (by
      have hu : 0 ≤ r 1048960 ∧ r 1048960 ≤ 15 := xbd_s H (e := .var 1048960) (lo := 0) (hi := 15) (by decide +kernel)
      omega)
  intro d
  induction d with
  | zero =>
    intro r hr H hZ hM hT hP hU hd
    omega
  | succ d ih =>
    intro r hr H hZ hM hT hP hU hd
    obtain ⟨m1, m2, m3, m4, m5, m6⟩ := hM
    have hw : 1 ≤ r 128 ∧ r 128 ≤ 16 := xbd_s H (e := .var 128) (lo := 1) (hi := 16) (by decide +kernel)
    have hu : 0 ≤ r 1048960 ∧ r 1048960 ≤ 15 := xbd_s H (e := .var 1048960) (lo := 0) (hi := 15) (by decide +kernel)
    have hf : 0 ≤ r 1048704 ∧ r 1048704 ≤ 7 := xbd_s H (e := .var 1048704) (lo := 0) (hi := 7) (by decide +kernel)
    by_cases hup : r 1048960 = (p : Int)
    · have es : r (4194310 + 64 * (r 1048960).toNat) = S p := by
        have e0 : (r 1048960).toNat = p := by omega
        rw [e0]
        exact m4 p hp
      have j1 := m6.1 p hp
      have e : S p = -1 ∨ S p = 0 ∨ S p = 1 ∨ S p = 2 ∨ S p = 3 ∨ S p = 4 ∨ S p = 5 := by omega
      rcases e with e | e | e | e | e | e | e
      · have hv := yb48w_t (q := 1) hy e
        have hv2 := yb48a_n hv (by omega) (by decide)
        have H1 := xHc (e := .sub (.var 128) (.var 1048960)) (lo := 1) (hi := 16) H (show (1 : Int) ≤ (r 128 - r 1048960) by omega) (show (r 128 - r 1048960) ≤ (16 : Int) by omega)
        have H2 := xHc (e := .sub (.var 1048960) (.var 1049024)) (lo := 0) (hi := 0) H1 (show (0 : Int) ≤ (r 1048960 - r 1049024) by omega) (show (r 1048960 - r 1049024) ≤ (0 : Int) by omega)
        have H3 := xHc (e := .pow (.sub (.num 4194310) (.var 1048960)) 0) (lo := -1) (hi := -1) H2 (show (-1 : Int) ≤ r (4194310 + 64 * (r 1048960).toNat) by omega) (show r (4194310 + 64 * (r 1048960).toNat) ≤ (-1 : Int) by omega)
        refine yz_run hL yq48_W2t hr H3 (xcut_s fun c hc r2 G2 hR => ?_)
        have hr2 : yzr L xs r2 := fun i hi => by rw [hR.2.2.2 i hi]; exact hr i hi
        have aw : r2 128 = w := (hR.2.2.2 128 (by decide)).trans m1
        simp only [List.mem_cons, List.not_mem_nil, or_false] at hc
        rcases hc with rfl | rfl
        · have a1048577 : r2 1048577 = r 1048577 := yas hR List.mem_cons_self
          have a1048640 : r2 1048640 = r 1048640 := yas hR (List.mem_cons_of_mem _ List.mem_cons_self)
          have a1048704 : r2 1048704 = r 1048704 := yas hR (List.mem_cons_of_mem _ (List.mem_cons_of_mem _ List.mem_cons_self))
          have fS : ∀ j : Nat, j < 16 → r2 (4194310 + 64 * j) = (bif decide (r 1048960 = (j : Int)) then ((0, 6) : ycV) else (0, r (4194310 + 64 * j))).2 := fun j hj => hR.2.1 _ List.mem_cons_self (4194310, 16, 217) List.mem_cons_self rfl j hj
          have fD : ∀ j : Nat, j < 8 → r2 (4195394 + 64 * j) = r (4195394 + 64 * j) := fun j hj => hR.2.1 _ (List.mem_cons_of_mem _ List.mem_cons_self) (4195394, 8, 207) (List.mem_cons_of_mem _ List.mem_cons_self) rfl j hj
          exact hC1 r2 w x f (yb48u S p (8 - ((1 + 1 : Nat) : Int))) D hr2 G2 trivial ⟨aw, a1048577.trans m2, a1048704.trans m3, fun k hk => yb48_fu (fS k (by omega)) hup (by decide) (m4 k hk), fun s hs => (fD s (by omega)).trans (m5 s hs), yb48J_take m6 hp (by decide)⟩ (by omega) hv2
        · have a1048640 : r2 1048640 = r 1048640 := yas hR List.mem_cons_self
          have a1048704 : r2 1048704 = r 1048704 := yas hR (List.mem_cons_of_mem _ List.mem_cons_self)
          have fS : ∀ j : Nat, j < 16 → r2 (4194310 + 64 * j) = (bif decide (r 1048960 = (j : Int)) then ((0, 6) : ycV) else (0, r (4194310 + 64 * j))).2 := fun j hj => hR.2.1 _ List.mem_cons_self (4194310, 16, 217) List.mem_cons_self rfl j hj
          have fD : ∀ j : Nat, j < 8 → r2 (4195394 + 64 * j) = r (4195394 + 64 * j) := fun j hj => hR.2.1 _ (List.mem_cons_of_mem _ List.mem_cons_self) (4195394, 8, 207) (List.mem_cons_of_mem _ List.mem_cons_self) rfl j hj
          have t0 : (20000 : Int) ≤ r 1048640 ∧ r 1048640 ≤ (20000 : Int) := hR.2.2.1 _ List.mem_cons_self
          have hn : n = 0 := by omega
          subst hn
          exact hE3 (yb48_0 hv2) r2 hr2 G2 trivial
      · have hv := yb48w_s hy (by omega)
        have ed : r 4195394 = 0 := (m5 0 (by decide)).trans (by
          have z := m6.2.2.1 p hp (by omega)
          rw [e] at z
          exact z)
        have H1 := xHc (e := .sub (.var 128) (.var 1048960)) (lo := 1) (hi := 16) H (show (1 : Int) ≤ (r 128 - r 1048960) by omega) (show (r 128 - r 1048960) ≤ (16 : Int) by omega)
        have H2 := xHc (e := .sub (.var 1048960) (.var 1049024)) (lo := 0) (hi := 0) H1 (show (0 : Int) ≤ (r 1048960 - r 1049024) by omega) (show (r 1048960 - r 1049024) ≤ (0 : Int) by omega)
        have H3 := xHc (e := .pow (.sub (.num 4194310) (.var 1048960)) 0) (lo := 0) (hi := 0) H2 (show (0 : Int) ≤ r (4194310 + 64 * (r 1048960).toNat) by omega) (show r (4194310 + 64 * (r 1048960).toNat) ≤ (0 : Int) by omega)
        have H4 := xHc (e := .var 4195394) (lo := 0) (hi := 0) H3 (show (0 : Int) ≤ r 4195394 by omega) (show r 4195394 ≤ (0 : Int) by omega)
        refine yz_run hL yq48_W2s0 hr H4 (xcut_s fun c hc r2 G2 hR => ?_)
        have hr2 : yzr L xs r2 := fun i hi => by rw [hR.2.2.2 i hi]; exact hr i hi
        have aw : r2 128 = w := (hR.2.2.2 128 (by decide)).trans m1
        simp only [List.mem_cons, List.not_mem_nil, or_false] at hc
        rcases hc with rfl | rfl | rfl
        · have a1048640 : r2 1048640 = r 1048640 := yas hR List.mem_cons_self
          have a1048704 : r2 1048704 = (r 1048704 + (1 : Int)) := yas hR (List.mem_cons_of_mem _ List.mem_cons_self)
          have fS : ∀ j : Nat, j < 16 → r2 (4194310 + 64 * j) = (bif decide (r 1048960 = (j : Int)) then ((0, -1) : ycV) else (0, r (4194310 + 64 * j))).2 := fun j hj => hR.2.1 _ List.mem_cons_self (4194310, 16, 217) List.mem_cons_self rfl j hj
          have fD : ∀ j : Nat, j < 8 → r2 (4195394 + 64 * j) = (xct r (.branch 0 (.branch 0 (.branch 0 (.branch 0 (.leaf (0, .add (.var 4195394) (.num 1))) (.leaf (10, .num 4195394))) (.leaf (10, .num 4195394))) (.leaf (10, .num 4195394))) (.leaf (10, .num 4195394))) j).2 := fun j hj => hR.2.1 _ (List.mem_cons_of_mem _ List.mem_cons_self) (4195394, 8, 207) (List.mem_cons_of_mem _ List.mem_cons_self) rfl j hj
          have fD2 : ∀ s : Nat, s < 8 → s ≠ (S p).toNat → r2 (4195394 + 64 * s) = D s := fun s hs hn => ((fD s (by omega)).trans (yb48_d0 r s hs (by omega))).trans (m5 s hs)
          have t0 : (7 : Int) ≤ r 1048704 ∧ r 1048704 ≤ (7 : Int) := hR.2.2.1 _ List.mem_cons_self
          exact hE0 (yb48a_e hv (by omega)) r2 hr2 G2 trivial
        · have a1048577 : r2 1048577 = r 1048577 := yas hR List.mem_cons_self
          have a1048640 : r2 1048640 = r 1048640 := yas hR (List.mem_cons_of_mem _ List.mem_cons_self)
          have a1048704 : r2 1048704 = (r 1048704 + (1 : Int)) := yas hR (List.mem_cons_of_mem _ (List.mem_cons_of_mem _ List.mem_cons_self))
          have fS : ∀ j : Nat, j < 16 → r2 (4194310 + 64 * j) = (bif decide (r 1048960 = (j : Int)) then ((0, -1) : ycV) else (0, r (4194310 + 64 * j))).2 := fun j hj => hR.2.1 _ List.mem_cons_self (4194310, 16, 217) List.mem_cons_self rfl j hj
          have fD : ∀ j : Nat, j < 8 → r2 (4195394 + 64 * j) = (xct r (.branch 0 (.branch 0 (.branch 0 (.branch 0 (.leaf (0, .add (.var 4195394) (.num 1))) (.leaf (10, .num 4195394))) (.leaf (10, .num 4195394))) (.leaf (10, .num 4195394))) (.leaf (10, .num 4195394))) j).2 := fun j hj => hR.2.1 _ (List.mem_cons_of_mem _ List.mem_cons_self) (4195394, 8, 207) (List.mem_cons_of_mem _ List.mem_cons_self) rfl j hj
          have fD2 : ∀ s : Nat, s < 8 → s ≠ (S p).toNat → r2 (4195394 + 64 * s) = D s := fun s hs hn => ((fD s (by omega)).trans (yb48_d0 r s hs (by omega))).trans (m5 s hs)
          have t1 : (0 : Int) ≤ r 1048704 ∧ r 1048704 ≤ (6 : Int) := hR.2.2.1 _ (List.mem_cons_of_mem _ List.mem_cons_self)
          have hv2 := yb48a_n hv (by omega) (by decide)
          exact hC r2 w x (f + 1) (yb48u S p (-1)) (fun s => r2 (4195394 + 64 * s)) hr2 G2 trivial ⟨aw, a1048577.trans m2, by omega, fun k hk => yb48_fu (fS k (by omega)) hup rfl (m4 k hk), fun _ _ => rfl, yb48J_step m6 hp (by omega) fD2 (by decide)⟩ (by omega) hv2
        · have a1048640 : r2 1048640 = r 1048640 := yas hR List.mem_cons_self
          have a1048704 : r2 1048704 = (r 1048704 + (1 : Int)) := yas hR (List.mem_cons_of_mem _ List.mem_cons_self)
          have fS : ∀ j : Nat, j < 16 → r2 (4194310 + 64 * j) = (bif decide (r 1048960 = (j : Int)) then ((0, -1) : ycV) else (0, r (4194310 + 64 * j))).2 := fun j hj => hR.2.1 _ List.mem_cons_self (4194310, 16, 217) List.mem_cons_self rfl j hj
          have fD : ∀ j : Nat, j < 8 → r2 (4195394 + 64 * j) = (xct r (.branch 0 (.branch 0 (.branch 0 (.branch 0 (.leaf (0, .add (.var 4195394) (.num 1))) (.leaf (10, .num 4195394))) (.leaf (10, .num 4195394))) (.leaf (10, .num 4195394))) (.leaf (10, .num 4195394))) j).2 := fun j hj => hR.2.1 _ (List.mem_cons_of_mem _ List.mem_cons_self) (4195394, 8, 207) (List.mem_cons_of_mem _ List.mem_cons_self) rfl j hj
          have fD2 : ∀ s : Nat, s < 8 → s ≠ (S p).toNat → r2 (4195394 + 64 * s) = D s := fun s hs hn => ((fD s (by omega)).trans (yb48_d0 r s hs (by omega))).trans (m5 s hs)
          have t1 : (0 : Int) ≤ r 1048704 ∧ r 1048704 ≤ (6 : Int) := hR.2.2.1 _ (List.mem_cons_of_mem _ List.mem_cons_self)
          have hv2 := yb48a_n hv (by omega) (by decide)
          have t0 : (20000 : Int) ≤ r 1048640 ∧ r 1048640 ≤ (20000 : Int) := hR.2.2.1 _ List.mem_cons_self
          have hn : n = 0 := by omega
          subst hn
          exact hE3 (yb48_0 hv2) r2 hr2 G2 trivial
      · have hv := yb48w_s hy (by omega)
        have ed : r 4195458 = 0 := (m5 1 (by decide)).trans (by
          have z := m6.2.2.1 p hp (by omega)
          rw [e] at z
          exact z)
        have H1 := xHc (e := .sub (.var 128) (.var 1048960)) (lo := 1) (hi := 16) H (show (1 : Int) ≤ (r 128 - r 1048960) by omega) (show (r 128 - r 1048960) ≤ (16 : Int) by omega)
        have H2 := xHc (e := .sub (.var 1048960) (.var 1049024)) (lo := 0) (hi := 0) H1 (show (0 : Int) ≤ (r 1048960 - r 1049024) by omega) (show (r 1048960 - r 1049024) ≤ (0 : Int) by omega)
        have H3 := xHc (e := .pow (.sub (.num 4194310) (.var 1048960)) 0) (lo := 1) (hi := 1) H2 (show (1 : Int) ≤ r (4194310 + 64 * (r 1048960).toNat) by omega) (show r (4194310 + 64 * (r 1048960).toNat) ≤ (1 : Int) by omega)
        have H4 := xHc (e := .var 4195458) (lo := 0) (hi := 0) H3 (show (0 : Int) ≤ r 4195458 by omega) (show r 4195458 ≤ (0 : Int) by omega)
        refine yz_run hL yq48_W2s1 hr H4 (xcut_s fun c hc r2 G2 hR => ?_)
        have hr2 : yzr L xs r2 := fun i hi => by rw [hR.2.2.2 i hi]; exact hr i hi
        have aw : r2 128 = w := (hR.2.2.2 128 (by decide)).trans m1
        simp only [List.mem_cons, List.not_mem_nil, or_false] at hc
        rcases hc with rfl | rfl | rfl
        · have a1048640 : r2 1048640 = r 1048640 := yas hR List.mem_cons_self
          have a1048704 : r2 1048704 = (r 1048704 + (1 : Int)) := yas hR (List.mem_cons_of_mem _ List.mem_cons_self)
          have fS : ∀ j : Nat, j < 16 → r2 (4194310 + 64 * j) = (bif decide (r 1048960 = (j : Int)) then ((0, -1) : ycV) else (0, r (4194310 + 64 * j))).2 := fun j hj => hR.2.1 _ List.mem_cons_self (4194310, 16, 217) List.mem_cons_self rfl j hj
          have fD : ∀ j : Nat, j < 8 → r2 (4195394 + 64 * j) = (xct r (.branch 0 (.leaf (10, .num 4195394)) (.branch 0 (.branch 0 (.branch 0 (.leaf (0, .add (.var 4195458) (.num 1))) (.leaf (10, .num 4195394))) (.leaf (10, .num 4195394))) (.leaf (10, .num 4195394)))) j).2 := fun j hj => hR.2.1 _ (List.mem_cons_of_mem _ List.mem_cons_self) (4195394, 8, 207) (List.mem_cons_of_mem _ List.mem_cons_self) rfl j hj
          have fD2 : ∀ s : Nat, s < 8 → s ≠ (S p).toNat → r2 (4195394 + 64 * s) = D s := fun s hs hn => ((fD s (by omega)).trans (yb48_d1 r s hs (by omega))).trans (m5 s hs)
          have t0 : (7 : Int) ≤ r 1048704 ∧ r 1048704 ≤ (7 : Int) := hR.2.2.1 _ List.mem_cons_self
          exact hE0 (yb48a_e hv (by omega)) r2 hr2 G2 trivial
        · have a1048577 : r2 1048577 = r 1048577 := yas hR List.mem_cons_self
          have a1048640 : r2 1048640 = r 1048640 := yas hR (List.mem_cons_of_mem _ List.mem_cons_self)
          have a1048704 : r2 1048704 = (r 1048704 + (1 : Int)) := yas hR (List.mem_cons_of_mem _ (List.mem_cons_of_mem _ List.mem_cons_self))
          have fS : ∀ j : Nat, j < 16 → r2 (4194310 + 64 * j) = (bif decide (r 1048960 = (j : Int)) then ((0, -1) : ycV) else (0, r (4194310 + 64 * j))).2 := fun j hj => hR.2.1 _ List.mem_cons_self (4194310, 16, 217) List.mem_cons_self rfl j hj
          have fD : ∀ j : Nat, j < 8 → r2 (4195394 + 64 * j) = (xct r (.branch 0 (.leaf (10, .num 4195394)) (.branch 0 (.branch 0 (.branch 0 (.leaf (0, .add (.var 4195458) (.num 1))) (.leaf (10, .num 4195394))) (.leaf (10, .num 4195394))) (.leaf (10, .num 4195394)))) j).2 := fun j hj => hR.2.1 _ (List.mem_cons_of_mem _ List.mem_cons_self) (4195394, 8, 207) (List.mem_cons_of_mem _ List.mem_cons_self) rfl j hj
          have fD2 : ∀ s : Nat, s < 8 → s ≠ (S p).toNat → r2 (4195394 + 64 * s) = D s := fun s hs hn => ((fD s (by omega)).trans (yb48_d1 r s hs (by omega))).trans (m5 s hs)
          have t1 : (0 : Int) ≤ r 1048704 ∧ r 1048704 ≤ (6 : Int) := hR.2.2.1 _ (List.mem_cons_of_mem _ List.mem_cons_self)
          have hv2 := yb48a_n hv (by omega) (by decide)
          exact hC r2 w x (f + 1) (yb48u S p (-1)) (fun s => r2 (4195394 + 64 * s)) hr2 G2 trivial ⟨aw, a1048577.trans m2, by omega, fun k hk => yb48_fu (fS k (by omega)) hup rfl (m4 k hk), fun _ _ => rfl, yb48J_step m6 hp (by omega) fD2 (by decide)⟩ (by omega) hv2
        · have a1048640 : r2 1048640 = r 1048640 := yas hR List.mem_cons_self
          have a1048704 : r2 1048704 = (r 1048704 + (1 : Int)) := yas hR (List.mem_cons_of_mem _ List.mem_cons_self)
          have fS : ∀ j : Nat, j < 16 → r2 (4194310 + 64 * j) = (bif decide (r 1048960 = (j : Int)) then ((0, -1) : ycV) else (0, r (4194310 + 64 * j))).2 := fun j hj => hR.2.1 _ List.mem_cons_self (4194310, 16, 217) List.mem_cons_self rfl j hj
          have fD : ∀ j : Nat, j < 8 → r2 (4195394 + 64 * j) = (xct r (.branch 0 (.leaf (10, .num 4195394)) (.branch 0 (.branch 0 (.branch 0 (.leaf (0, .add (.var 4195458) (.num 1))) (.leaf (10, .num 4195394))) (.leaf (10, .num 4195394))) (.leaf (10, .num 4195394)))) j).2 := fun j hj => hR.2.1 _ (List.mem_cons_of_mem _ List.mem_cons_self) (4195394, 8, 207) (List.mem_cons_of_mem _ List.mem_cons_self) rfl j hj
          have fD2 : ∀ s : Nat, s < 8 → s ≠ (S p).toNat → r2 (4195394 + 64 * s) = D s := fun s hs hn => ((fD s (by omega)).trans (yb48_d1 r s hs (by omega))).trans (m5 s hs)
          have t1 : (0 : Int) ≤ r 1048704 ∧ r 1048704 ≤ (6 : Int) := hR.2.2.1 _ (List.mem_cons_of_mem _ List.mem_cons_self)
          have hv2 := yb48a_n hv (by omega) (by decide)
          have t0 : (20000 : Int) ≤ r 1048640 ∧ r 1048640 ≤ (20000 : Int) := hR.2.2.1 _ List.mem_cons_self
          have hn : n = 0 := by omega
          subst hn
          exact hE3 (yb48_0 hv2) r2 hr2 G2 trivial
      · have hv := yb48w_s hy (by omega)
        have ed : r 4195522 = 0 := (m5 2 (by decide)).trans (by
          have z := m6.2.2.1 p hp (by omega)
          rw [e] at z
          exact z)
        have H1 := xHc (e := .sub (.var 128) (.var 1048960)) (lo := 1) (hi := 16) H (show (1 : Int) ≤ (r 128 - r 1048960) by omega) (show (r 128 - r 1048960) ≤ (16 : Int) by omega)
        have H2 := xHc (e := .sub (.var 1048960) (.var 1049024)) (lo := 0) (hi := 0) H1 (show (0 : Int) ≤ (r 1048960 - r 1049024) by omega) (show (r 1048960 - r 1049024) ≤ (0 : Int) by omega)
        have H3 := xHc (e := .pow (.sub (.num 4194310) (.var 1048960)) 0) (lo := 2) (hi := 2) H2 (show (2 : Int) ≤ r (4194310 + 64 * (r 1048960).toNat) by omega) (show r (4194310 + 64 * (r 1048960).toNat) ≤ (2 : Int) by omega)
        have H4 := xHc (e := .var 4195522) (lo := 0) (hi := 0) H3 (show (0 : Int) ≤ r 4195522 by omega) (show r 4195522 ≤ (0 : Int) by omega)
        refine yz_run hL yq48_W2s2 hr H4 (xcut_s fun c hc r2 G2 hR => ?_)
        have hr2 : yzr L xs r2 := fun i hi => by rw [hR.2.2.2 i hi]; exact hr i hi
        have aw : r2 128 = w := (hR.2.2.2 128 (by decide)).trans m1
        simp only [List.mem_cons, List.not_mem_nil, or_false] at hc
        rcases hc with rfl | rfl | rfl
        · have a1048640 : r2 1048640 = r 1048640 := yas hR List.mem_cons_self
          have a1048704 : r2 1048704 = (r 1048704 + (1 : Int)) := yas hR (List.mem_cons_of_mem _ List.mem_cons_self)
          have fS : ∀ j : Nat, j < 16 → r2 (4194310 + 64 * j) = (bif decide (r 1048960 = (j : Int)) then ((0, -1) : ycV) else (0, r (4194310 + 64 * j))).2 := fun j hj => hR.2.1 _ List.mem_cons_self (4194310, 16, 217) List.mem_cons_self rfl j hj
          have fD : ∀ j : Nat, j < 8 → r2 (4195394 + 64 * j) = (xct r (.branch 0 (.branch 0 (.leaf (10, .num 4195394)) (.branch 0 (.branch 0 (.leaf (0, .add (.var 4195522) (.num 1))) (.leaf (10, .num 4195394))) (.leaf (10, .num 4195394)))) (.leaf (10, .num 4195394))) j).2 := fun j hj => hR.2.1 _ (List.mem_cons_of_mem _ List.mem_cons_self) (4195394, 8, 207) (List.mem_cons_of_mem _ List.mem_cons_self) rfl j hj
          have fD2 : ∀ s : Nat, s < 8 → s ≠ (S p).toNat → r2 (4195394 + 64 * s) = D s := fun s hs hn => ((fD s (by omega)).trans (yb48_d2 r s hs (by omega))).trans (m5 s hs)
          have t0 : (7 : Int) ≤ r 1048704 ∧ r 1048704 ≤ (7 : Int) := hR.2.2.1 _ List.mem_cons_self
          exact hE0 (yb48a_e hv (by omega)) r2 hr2 G2 trivial
        · have a1048577 : r2 1048577 = r 1048577 := yas hR List.mem_cons_self
          have a1048640 : r2 1048640 = r 1048640 := yas hR (List.mem_cons_of_mem _ List.mem_cons_self)
          have a1048704 : r2 1048704 = (r 1048704 + (1 : Int)) := yas hR (List.mem_cons_of_mem _ (List.mem_cons_of_mem _ List.mem_cons_self))
          have fS : ∀ j : Nat, j < 16 → r2 (4194310 + 64 * j) = (bif decide (r 1048960 = (j : Int)) then ((0, -1) : ycV) else (0, r (4194310 + 64 * j))).2 := fun j hj => hR.2.1 _ List.mem_cons_self (4194310, 16, 217) List.mem_cons_self rfl j hj
          have fD : ∀ j : Nat, j < 8 → r2 (4195394 + 64 * j) = (xct r (.branch 0 (.branch 0 (.leaf (10, .num 4195394)) (.branch 0 (.branch 0 (.leaf (0, .add (.var 4195522) (.num 1))) (.leaf (10, .num 4195394))) (.leaf (10, .num 4195394)))) (.leaf (10, .num 4195394))) j).2 := fun j hj => hR.2.1 _ (List.mem_cons_of_mem _ List.mem_cons_self) (4195394, 8, 207) (List.mem_cons_of_mem _ List.mem_cons_self) rfl j hj
          have fD2 : ∀ s : Nat, s < 8 → s ≠ (S p).toNat → r2 (4195394 + 64 * s) = D s := fun s hs hn => ((fD s (by omega)).trans (yb48_d2 r s hs (by omega))).trans (m5 s hs)
          have t1 : (0 : Int) ≤ r 1048704 ∧ r 1048704 ≤ (6 : Int) := hR.2.2.1 _ (List.mem_cons_of_mem _ List.mem_cons_self)
          have hv2 := yb48a_n hv (by omega) (by decide)
          exact hC r2 w x (f + 1) (yb48u S p (-1)) (fun s => r2 (4195394 + 64 * s)) hr2 G2 trivial ⟨aw, a1048577.trans m2, by omega, fun k hk => yb48_fu (fS k (by omega)) hup rfl (m4 k hk), fun _ _ => rfl, yb48J_step m6 hp (by omega) fD2 (by decide)⟩ (by omega) hv2
        · have a1048640 : r2 1048640 = r 1048640 := yas hR List.mem_cons_self
          have a1048704 : r2 1048704 = (r 1048704 + (1 : Int)) := yas hR (List.mem_cons_of_mem _ List.mem_cons_self)
          have fS : ∀ j : Nat, j < 16 → r2 (4194310 + 64 * j) = (bif decide (r 1048960 = (j : Int)) then ((0, -1) : ycV) else (0, r (4194310 + 64 * j))).2 := fun j hj => hR.2.1 _ List.mem_cons_self (4194310, 16, 217) List.mem_cons_self rfl j hj
          have fD : ∀ j : Nat, j < 8 → r2 (4195394 + 64 * j) = (xct r (.branch 0 (.branch 0 (.leaf (10, .num 4195394)) (.branch 0 (.branch 0 (.leaf (0, .add (.var 4195522) (.num 1))) (.leaf (10, .num 4195394))) (.leaf (10, .num 4195394)))) (.leaf (10, .num 4195394))) j).2 := fun j hj => hR.2.1 _ (List.mem_cons_of_mem _ List.mem_cons_self) (4195394, 8, 207) (List.mem_cons_of_mem _ List.mem_cons_self) rfl j hj
          have fD2 : ∀ s : Nat, s < 8 → s ≠ (S p).toNat → r2 (4195394 + 64 * s) = D s := fun s hs hn => ((fD s (by omega)).trans (yb48_d2 r s hs (by omega))).trans (m5 s hs)
          have t1 : (0 : Int) ≤ r 1048704 ∧ r 1048704 ≤ (6 : Int) := hR.2.2.1 _ (List.mem_cons_of_mem _ List.mem_cons_self)
          have hv2 := yb48a_n hv (by omega) (by decide)
          have t0 : (20000 : Int) ≤ r 1048640 ∧ r 1048640 ≤ (20000 : Int) := hR.2.2.1 _ List.mem_cons_self
          have hn : n = 0 := by omega
          subst hn
          exact hE3 (yb48_0 hv2) r2 hr2 G2 trivial
      · have hv := yb48w_s hy (by omega)
        have ed : r 4195586 = 0 := (m5 3 (by decide)).trans (by
          have z := m6.2.2.1 p hp (by omega)
          rw [e] at z
          exact z)
        have H1 := xHc (e := .sub (.var 128) (.var 1048960)) (lo := 1) (hi := 16) H (show (1 : Int) ≤ (r 128 - r 1048960) by omega) (show (r 128 - r 1048960) ≤ (16 : Int) by omega)
        have H2 := xHc (e := .sub (.var 1048960) (.var 1049024)) (lo := 0) (hi := 0) H1 (show (0 : Int) ≤ (r 1048960 - r 1049024) by omega) (show (r 1048960 - r 1049024) ≤ (0 : Int) by omega)
        have H3 := xHc (e := .pow (.sub (.num 4194310) (.var 1048960)) 0) (lo := 3) (hi := 3) H2 (show (3 : Int) ≤ r (4194310 + 64 * (r 1048960).toNat) by omega) (show r (4194310 + 64 * (r 1048960).toNat) ≤ (3 : Int) by omega)
        have H4 := xHc (e := .var 4195586) (lo := 0) (hi := 0) H3 (show (0 : Int) ≤ r 4195586 by omega) (show r 4195586 ≤ (0 : Int) by omega)
        refine yz_run hL yq48_W2s3 hr H4 (xcut_s fun c hc r2 G2 hR => ?_)
        have hr2 : yzr L xs r2 := fun i hi => by rw [hR.2.2.2 i hi]; exact hr i hi
        have aw : r2 128 = w := (hR.2.2.2 128 (by decide)).trans m1
        simp only [List.mem_cons, List.not_mem_nil, or_false] at hc
        rcases hc with rfl | rfl | rfl
        · have a1048640 : r2 1048640 = r 1048640 := yas hR List.mem_cons_self
          have a1048704 : r2 1048704 = (r 1048704 + (1 : Int)) := yas hR (List.mem_cons_of_mem _ List.mem_cons_self)
          have fS : ∀ j : Nat, j < 16 → r2 (4194310 + 64 * j) = (bif decide (r 1048960 = (j : Int)) then ((0, -1) : ycV) else (0, r (4194310 + 64 * j))).2 := fun j hj => hR.2.1 _ List.mem_cons_self (4194310, 16, 217) List.mem_cons_self rfl j hj
          have fD : ∀ j : Nat, j < 8 → r2 (4195394 + 64 * j) = (xct r (.branch 0 (.leaf (10, .num 4195394)) (.branch 0 (.leaf (10, .num 4195394)) (.branch 0 (.branch 0 (.leaf (0, .add (.var 4195586) (.num 1))) (.leaf (10, .num 4195394))) (.leaf (10, .num 4195394))))) j).2 := fun j hj => hR.2.1 _ (List.mem_cons_of_mem _ List.mem_cons_self) (4195394, 8, 207) (List.mem_cons_of_mem _ List.mem_cons_self) rfl j hj
          have fD2 : ∀ s : Nat, s < 8 → s ≠ (S p).toNat → r2 (4195394 + 64 * s) = D s := fun s hs hn => ((fD s (by omega)).trans (yb48_d3 r s hs (by omega))).trans (m5 s hs)
          have t0 : (7 : Int) ≤ r 1048704 ∧ r 1048704 ≤ (7 : Int) := hR.2.2.1 _ List.mem_cons_self
          exact hE0 (yb48a_e hv (by omega)) r2 hr2 G2 trivial
        · have a1048577 : r2 1048577 = r 1048577 := yas hR List.mem_cons_self
          have a1048640 : r2 1048640 = r 1048640 := yas hR (List.mem_cons_of_mem _ List.mem_cons_self)
          have a1048704 : r2 1048704 = (r 1048704 + (1 : Int)) := yas hR (List.mem_cons_of_mem _ (List.mem_cons_of_mem _ List.mem_cons_self))
          have fS : ∀ j : Nat, j < 16 → r2 (4194310 + 64 * j) = (bif decide (r 1048960 = (j : Int)) then ((0, -1) : ycV) else (0, r (4194310 + 64 * j))).2 := fun j hj => hR.2.1 _ List.mem_cons_self (4194310, 16, 217) List.mem_cons_self rfl j hj
          have fD : ∀ j : Nat, j < 8 → r2 (4195394 + 64 * j) = (xct r (.branch 0 (.leaf (10, .num 4195394)) (.branch 0 (.leaf (10, .num 4195394)) (.branch 0 (.branch 0 (.leaf (0, .add (.var 4195586) (.num 1))) (.leaf (10, .num 4195394))) (.leaf (10, .num 4195394))))) j).2 := fun j hj => hR.2.1 _ (List.mem_cons_of_mem _ List.mem_cons_self) (4195394, 8, 207) (List.mem_cons_of_mem _ List.mem_cons_self) rfl j hj
          have fD2 : ∀ s : Nat, s < 8 → s ≠ (S p).toNat → r2 (4195394 + 64 * s) = D s := fun s hs hn => ((fD s (by omega)).trans (yb48_d3 r s hs (by omega))).trans (m5 s hs)
          have t1 : (0 : Int) ≤ r 1048704 ∧ r 1048704 ≤ (6 : Int) := hR.2.2.1 _ (List.mem_cons_of_mem _ List.mem_cons_self)
          have hv2 := yb48a_n hv (by omega) (by decide)
          exact hC r2 w x (f + 1) (yb48u S p (-1)) (fun s => r2 (4195394 + 64 * s)) hr2 G2 trivial ⟨aw, a1048577.trans m2, by omega, fun k hk => yb48_fu (fS k (by omega)) hup rfl (m4 k hk), fun _ _ => rfl, yb48J_step m6 hp (by omega) fD2 (by decide)⟩ (by omega) hv2
        · have a1048640 : r2 1048640 = r 1048640 := yas hR List.mem_cons_self
          have a1048704 : r2 1048704 = (r 1048704 + (1 : Int)) := yas hR (List.mem_cons_of_mem _ List.mem_cons_self)
          have fS : ∀ j : Nat, j < 16 → r2 (4194310 + 64 * j) = (bif decide (r 1048960 = (j : Int)) then ((0, -1) : ycV) else (0, r (4194310 + 64 * j))).2 := fun j hj => hR.2.1 _ List.mem_cons_self (4194310, 16, 217) List.mem_cons_self rfl j hj
          have fD : ∀ j : Nat, j < 8 → r2 (4195394 + 64 * j) = (xct r (.branch 0 (.leaf (10, .num 4195394)) (.branch 0 (.leaf (10, .num 4195394)) (.branch 0 (.branch 0 (.leaf (0, .add (.var 4195586) (.num 1))) (.leaf (10, .num 4195394))) (.leaf (10, .num 4195394))))) j).2 := fun j hj => hR.2.1 _ (List.mem_cons_of_mem _ List.mem_cons_self) (4195394, 8, 207) (List.mem_cons_of_mem _ List.mem_cons_self) rfl j hj
          have fD2 : ∀ s : Nat, s < 8 → s ≠ (S p).toNat → r2 (4195394 + 64 * s) = D s := fun s hs hn => ((fD s (by omega)).trans (yb48_d3 r s hs (by omega))).trans (m5 s hs)
          have t1 : (0 : Int) ≤ r 1048704 ∧ r 1048704 ≤ (6 : Int) := hR.2.2.1 _ (List.mem_cons_of_mem _ List.mem_cons_self)
          have hv2 := yb48a_n hv (by omega) (by decide)
          have t0 : (20000 : Int) ≤ r 1048640 ∧ r 1048640 ≤ (20000 : Int) := hR.2.2.1 _ List.mem_cons_self
          have hn : n = 0 := by omega
          subst hn
          exact hE3 (yb48_0 hv2) r2 hr2 G2 trivial
      · have hv := yb48w_s hy (by omega)
        have ed : r 4195650 = 0 := (m5 4 (by decide)).trans (by
          have z := m6.2.2.1 p hp (by omega)
          rw [e] at z
          exact z)
        have H1 := xHc (e := .sub (.var 128) (.var 1048960)) (lo := 1) (hi := 16) H (show (1 : Int) ≤ (r 128 - r 1048960) by omega) (show (r 128 - r 1048960) ≤ (16 : Int) by omega)
        have H2 := xHc (e := .sub (.var 1048960) (.var 1049024)) (lo := 0) (hi := 0) H1 (show (0 : Int) ≤ (r 1048960 - r 1049024) by omega) (show (r 1048960 - r 1049024) ≤ (0 : Int) by omega)
        have H3 := xHc (e := .pow (.sub (.num 4194310) (.var 1048960)) 0) (lo := 4) (hi := 4) H2 (show (4 : Int) ≤ r (4194310 + 64 * (r 1048960).toNat) by omega) (show r (4194310 + 64 * (r 1048960).toNat) ≤ (4 : Int) by omega)
        have H4 := xHc (e := .var 4195650) (lo := 0) (hi := 0) H3 (show (0 : Int) ≤ r 4195650 by omega) (show r 4195650 ≤ (0 : Int) by omega)
        refine yz_run hL yq48_W2s4 hr H4 (xcut_s fun c hc r2 G2 hR => ?_)
        have hr2 : yzr L xs r2 := fun i hi => by rw [hR.2.2.2 i hi]; exact hr i hi
        have aw : r2 128 = w := (hR.2.2.2 128 (by decide)).trans m1
        simp only [List.mem_cons, List.not_mem_nil, or_false] at hc
        rcases hc with rfl | rfl | rfl
        · have a1048640 : r2 1048640 = r 1048640 := yas hR List.mem_cons_self
          have a1048704 : r2 1048704 = (r 1048704 + (1 : Int)) := yas hR (List.mem_cons_of_mem _ List.mem_cons_self)
          have fS : ∀ j : Nat, j < 16 → r2 (4194310 + 64 * j) = (bif decide (r 1048960 = (j : Int)) then ((0, -1) : ycV) else (0, r (4194310 + 64 * j))).2 := fun j hj => hR.2.1 _ List.mem_cons_self (4194310, 16, 217) List.mem_cons_self rfl j hj
          have fD : ∀ j : Nat, j < 8 → r2 (4195394 + 64 * j) = (xct r (.branch 0 (.branch 0 (.branch 0 (.leaf (10, .num 4195394)) (.branch 0 (.leaf (0, .add (.var 4195650) (.num 1))) (.leaf (10, .num 4195394)))) (.leaf (10, .num 4195394))) (.leaf (10, .num 4195394))) j).2 := fun j hj => hR.2.1 _ (List.mem_cons_of_mem _ List.mem_cons_self) (4195394, 8, 207) (List.mem_cons_of_mem _ List.mem_cons_self) rfl j hj
          have fD2 : ∀ s : Nat, s < 8 → s ≠ (S p).toNat → r2 (4195394 + 64 * s) = D s := fun s hs hn => ((fD s (by omega)).trans (yb48_d4 r s hs (by omega))).trans (m5 s hs)
          have t0 : (7 : Int) ≤ r 1048704 ∧ r 1048704 ≤ (7 : Int) := hR.2.2.1 _ List.mem_cons_self
          exact hE0 (yb48a_e hv (by omega)) r2 hr2 G2 trivial
        · have a1048577 : r2 1048577 = r 1048577 := yas hR List.mem_cons_self
          have a1048640 : r2 1048640 = r 1048640 := yas hR (List.mem_cons_of_mem _ List.mem_cons_self)
          have a1048704 : r2 1048704 = (r 1048704 + (1 : Int)) := yas hR (List.mem_cons_of_mem _ (List.mem_cons_of_mem _ List.mem_cons_self))
          have fS : ∀ j : Nat, j < 16 → r2 (4194310 + 64 * j) = (bif decide (r 1048960 = (j : Int)) then ((0, -1) : ycV) else (0, r (4194310 + 64 * j))).2 := fun j hj => hR.2.1 _ List.mem_cons_self (4194310, 16, 217) List.mem_cons_self rfl j hj
          have fD : ∀ j : Nat, j < 8 → r2 (4195394 + 64 * j) = (xct r (.branch 0 (.branch 0 (.branch 0 (.leaf (10, .num 4195394)) (.branch 0 (.leaf (0, .add (.var 4195650) (.num 1))) (.leaf (10, .num 4195394)))) (.leaf (10, .num 4195394))) (.leaf (10, .num 4195394))) j).2 := fun j hj => hR.2.1 _ (List.mem_cons_of_mem _ List.mem_cons_self) (4195394, 8, 207) (List.mem_cons_of_mem _ List.mem_cons_self) rfl j hj
          have fD2 : ∀ s : Nat, s < 8 → s ≠ (S p).toNat → r2 (4195394 + 64 * s) = D s := fun s hs hn => ((fD s (by omega)).trans (yb48_d4 r s hs (by omega))).trans (m5 s hs)
          have t1 : (0 : Int) ≤ r 1048704 ∧ r 1048704 ≤ (6 : Int) := hR.2.2.1 _ (List.mem_cons_of_mem _ List.mem_cons_self)
          have hv2 := yb48a_n hv (by omega) (by decide)
          exact hC r2 w x (f + 1) (yb48u S p (-1)) (fun s => r2 (4195394 + 64 * s)) hr2 G2 trivial ⟨aw, a1048577.trans m2, by omega, fun k hk => yb48_fu (fS k (by omega)) hup rfl (m4 k hk), fun _ _ => rfl, yb48J_step m6 hp (by omega) fD2 (by decide)⟩ (by omega) hv2
        · have a1048640 : r2 1048640 = r 1048640 := yas hR List.mem_cons_self
          have a1048704 : r2 1048704 = (r 1048704 + (1 : Int)) := yas hR (List.mem_cons_of_mem _ List.mem_cons_self)
          have fS : ∀ j : Nat, j < 16 → r2 (4194310 + 64 * j) = (bif decide (r 1048960 = (j : Int)) then ((0, -1) : ycV) else (0, r (4194310 + 64 * j))).2 := fun j hj => hR.2.1 _ List.mem_cons_self (4194310, 16, 217) List.mem_cons_self rfl j hj
          have fD : ∀ j : Nat, j < 8 → r2 (4195394 + 64 * j) = (xct r (.branch 0 (.branch 0 (.branch 0 (.leaf (10, .num 4195394)) (.branch 0 (.leaf (0, .add (.var 4195650) (.num 1))) (.leaf (10, .num 4195394)))) (.leaf (10, .num 4195394))) (.leaf (10, .num 4195394))) j).2 := fun j hj => hR.2.1 _ (List.mem_cons_of_mem _ List.mem_cons_self) (4195394, 8, 207) (List.mem_cons_of_mem _ List.mem_cons_self) rfl j hj
          have fD2 : ∀ s : Nat, s < 8 → s ≠ (S p).toNat → r2 (4195394 + 64 * s) = D s := fun s hs hn => ((fD s (by omega)).trans (yb48_d4 r s hs (by omega))).trans (m5 s hs)
          have t1 : (0 : Int) ≤ r 1048704 ∧ r 1048704 ≤ (6 : Int) := hR.2.2.1 _ (List.mem_cons_of_mem _ List.mem_cons_self)
          have hv2 := yb48a_n hv (by omega) (by decide)
          have t0 : (20000 : Int) ≤ r 1048640 ∧ r 1048640 ≤ (20000 : Int) := hR.2.2.1 _ List.mem_cons_self
          have hn : n = 0 := by omega
          subst hn
          exact hE3 (yb48_0 hv2) r2 hr2 G2 trivial
      · have hv := yb48w_s hy (by omega)
        have ed : r 4195714 = 0 := (m5 5 (by decide)).trans (by
          have z := m6.2.2.1 p hp (by omega)
          rw [e] at z
          exact z)
        have H1 := xHc (e := .sub (.var 128) (.var 1048960)) (lo := 1) (hi := 16) H (show (1 : Int) ≤ (r 128 - r 1048960) by omega) (show (r 128 - r 1048960) ≤ (16 : Int) by omega)
        have H2 := xHc (e := .sub (.var 1048960) (.var 1049024)) (lo := 0) (hi := 0) H1 (show (0 : Int) ≤ (r 1048960 - r 1049024) by omega) (show (r 1048960 - r 1049024) ≤ (0 : Int) by omega)
        have H3 := xHc (e := .pow (.sub (.num 4194310) (.var 1048960)) 0) (lo := 5) (hi := 5) H2 (show (5 : Int) ≤ r (4194310 + 64 * (r 1048960).toNat) by omega) (show r (4194310 + 64 * (r 1048960).toNat) ≤ (5 : Int) by omega)
        have H4 := xHc (e := .var 4195714) (lo := 0) (hi := 0) H3 (show (0 : Int) ≤ r 4195714 by omega) (show r 4195714 ≤ (0 : Int) by omega)
        refine yz_run hL yq48_W2s5 hr H4 (xcut_s fun c hc r2 G2 hR => ?_)
        have hr2 : yzr L xs r2 := fun i hi => by rw [hR.2.2.2 i hi]; exact hr i hi
        have aw : r2 128 = w := (hR.2.2.2 128 (by decide)).trans m1
        simp only [List.mem_cons, List.not_mem_nil, or_false] at hc
        rcases hc with rfl | rfl | rfl
        · have a1048640 : r2 1048640 = r 1048640 := yas hR List.mem_cons_self
          have a1048704 : r2 1048704 = (r 1048704 + (1 : Int)) := yas hR (List.mem_cons_of_mem _ List.mem_cons_self)
          have fS : ∀ j : Nat, j < 16 → r2 (4194310 + 64 * j) = (bif decide (r 1048960 = (j : Int)) then ((0, -1) : ycV) else (0, r (4194310 + 64 * j))).2 := fun j hj => hR.2.1 _ List.mem_cons_self (4194310, 16, 217) List.mem_cons_self rfl j hj
          have fD : ∀ j : Nat, j < 8 → r2 (4195394 + 64 * j) = (xct r (.branch 0 (.leaf (10, .num 4195394)) (.branch 0 (.branch 0 (.leaf (10, .num 4195394)) (.branch 0 (.leaf (0, .add (.var 4195714) (.num 1))) (.leaf (10, .num 4195394)))) (.leaf (10, .num 4195394)))) j).2 := fun j hj => hR.2.1 _ (List.mem_cons_of_mem _ List.mem_cons_self) (4195394, 8, 207) (List.mem_cons_of_mem _ List.mem_cons_self) rfl j hj
          have fD2 : ∀ s : Nat, s < 8 → s ≠ (S p).toNat → r2 (4195394 + 64 * s) = D s := fun s hs hn => ((fD s (by omega)).trans (yb48_d5 r s hs (by omega))).trans (m5 s hs)
          have t0 : (7 : Int) ≤ r 1048704 ∧ r 1048704 ≤ (7 : Int) := hR.2.2.1 _ List.mem_cons_self
          exact hE0 (yb48a_e hv (by omega)) r2 hr2 G2 trivial
        · have a1048577 : r2 1048577 = r 1048577 := yas hR List.mem_cons_self
          have a1048640 : r2 1048640 = r 1048640 := yas hR (List.mem_cons_of_mem _ List.mem_cons_self)
          have a1048704 : r2 1048704 = (r 1048704 + (1 : Int)) := yas hR (List.mem_cons_of_mem _ (List.mem_cons_of_mem _ List.mem_cons_self))
          have fS : ∀ j : Nat, j < 16 → r2 (4194310 + 64 * j) = (bif decide (r 1048960 = (j : Int)) then ((0, -1) : ycV) else (0, r (4194310 + 64 * j))).2 := fun j hj => hR.2.1 _ List.mem_cons_self (4194310, 16, 217) List.mem_cons_self rfl j hj
          have fD : ∀ j : Nat, j < 8 → r2 (4195394 + 64 * j) = (xct r (.branch 0 (.leaf (10, .num 4195394)) (.branch 0 (.branch 0 (.leaf (10, .num 4195394)) (.branch 0 (.leaf (0, .add (.var 4195714) (.num 1))) (.leaf (10, .num 4195394)))) (.leaf (10, .num 4195394)))) j).2 := fun j hj => hR.2.1 _ (List.mem_cons_of_mem _ List.mem_cons_self) (4195394, 8, 207) (List.mem_cons_of_mem _ List.mem_cons_self) rfl j hj
          have fD2 : ∀ s : Nat, s < 8 → s ≠ (S p).toNat → r2 (4195394 + 64 * s) = D s := fun s hs hn => ((fD s (by omega)).trans (yb48_d5 r s hs (by omega))).trans (m5 s hs)
          have t1 : (0 : Int) ≤ r 1048704 ∧ r 1048704 ≤ (6 : Int) := hR.2.2.1 _ (List.mem_cons_of_mem _ List.mem_cons_self)
          have hv2 := yb48a_n hv (by omega) (by decide)
          exact hC r2 w x (f + 1) (yb48u S p (-1)) (fun s => r2 (4195394 + 64 * s)) hr2 G2 trivial ⟨aw, a1048577.trans m2, by omega, fun k hk => yb48_fu (fS k (by omega)) hup rfl (m4 k hk), fun _ _ => rfl, yb48J_step m6 hp (by omega) fD2 (by decide)⟩ (by omega) hv2
        · have a1048640 : r2 1048640 = r 1048640 := yas hR List.mem_cons_self
          have a1048704 : r2 1048704 = (r 1048704 + (1 : Int)) := yas hR (List.mem_cons_of_mem _ List.mem_cons_self)
          have fS : ∀ j : Nat, j < 16 → r2 (4194310 + 64 * j) = (bif decide (r 1048960 = (j : Int)) then ((0, -1) : ycV) else (0, r (4194310 + 64 * j))).2 := fun j hj => hR.2.1 _ List.mem_cons_self (4194310, 16, 217) List.mem_cons_self rfl j hj
          have fD : ∀ j : Nat, j < 8 → r2 (4195394 + 64 * j) = (xct r (.branch 0 (.leaf (10, .num 4195394)) (.branch 0 (.branch 0 (.leaf (10, .num 4195394)) (.branch 0 (.leaf (0, .add (.var 4195714) (.num 1))) (.leaf (10, .num 4195394)))) (.leaf (10, .num 4195394)))) j).2 := fun j hj => hR.2.1 _ (List.mem_cons_of_mem _ List.mem_cons_self) (4195394, 8, 207) (List.mem_cons_of_mem _ List.mem_cons_self) rfl j hj
          have fD2 : ∀ s : Nat, s < 8 → s ≠ (S p).toNat → r2 (4195394 + 64 * s) = D s := fun s hs hn => ((fD s (by omega)).trans (yb48_d5 r s hs (by omega))).trans (m5 s hs)
          have t1 : (0 : Int) ≤ r 1048704 ∧ r 1048704 ≤ (6 : Int) := hR.2.2.1 _ (List.mem_cons_of_mem _ List.mem_cons_self)
          have hv2 := yb48a_n hv (by omega) (by decide)
          have t0 : (20000 : Int) ≤ r 1048640 ∧ r 1048640 ≤ (20000 : Int) := hR.2.2.1 _ List.mem_cons_self
          have hn : n = 0 := by omega
          subst hn
          exact hE3 (yb48_0 hv2) r2 hr2 G2 trivial
    · have H1 := xHc (e := .sub (.var 128) (.var 1048960)) (lo := 1) (hi := 16) H (show (1 : Int) ≤ (r 128 - r 1048960) by omega) (show (r 128 - r 1048960) ≤ (16 : Int) by omega)
      have H2 := xHc (e := .sub (.var 1048960) (.var 1049024)) (lo := -15) (hi := -1) H1 (show (-15 : Int) ≤ (r 1048960 - r 1049024) by omega) (show (r 1048960 - r 1049024) ≤ (-1 : Int) by omega)
      refine yz_run hL yq48_W2n hr H2 (xcut_s fun c hc r2 G2 hR => ?_)
      have hr2 : yzr L xs r2 := fun i hi => by rw [hR.2.2.2 i hi]; exact hr i hi
      have aw : r2 128 = w := (hR.2.2.2 128 (by decide)).trans m1
      rw [List.mem_singleton] at hc
      subst hc
      have a1048577 : r2 1048577 = r 1048577 := yas hR List.mem_cons_self
      have a1049024 : r2 1049024 = r 1049024 := yas hR (List.mem_cons_of_mem _ List.mem_cons_self)
      have a1048960 : r2 1048960 = (r 1048960 + (1 : Int)) := yas hR (List.mem_cons_of_mem _ (List.mem_cons_of_mem _ List.mem_cons_self))
      have a1048640 : r2 1048640 = r 1048640 := yas hR (List.mem_cons_of_mem _ (List.mem_cons_of_mem _ (List.mem_cons_of_mem _ List.mem_cons_self)))
      have a1048704 : r2 1048704 = r 1048704 := yas hR (List.mem_cons_of_mem _ (List.mem_cons_of_mem _ (List.mem_cons_of_mem _ (List.mem_cons_of_mem _ List.mem_cons_self))))
      have fS : ∀ j : Nat, j < 16 → r2 (4194310 + 64 * j) = r (4194310 + 64 * j) := fun j hj => hR.2.1 _ List.mem_cons_self (4194310, 16, 217) List.mem_cons_self rfl j hj
      have fD : ∀ j : Nat, j < 8 → r2 (4195394 + 64 * j) = r (4195394 + 64 * j) := fun j hj => hR.2.1 _ (List.mem_cons_of_mem _ List.mem_cons_self) (4195394, 8, 207) (List.mem_cons_of_mem _ List.mem_cons_self) rfl j hj
      exact ih r2 hr2 G2 trivial ⟨aw, a1048577.trans m2, a1048704.trans m3, fun k hk => (fS k (by omega)).trans (m4 k hk), fun s hs => (fD s (by omega)).trans (m5 s hs), m6⟩ (by omega) (by omega) (by omega) (by omega)
theorem y48_C3 {L : Nat} {xs : Nat → Int32} (hL : L ≤ 3584) {y0 : Int} {n : Nat} (hW : yb48W L xs yZ0 y0 yt48_W3 yF48_W3 n 3) : yb48C L xs yZ0 y0 yt48_C3 yF48_C3 (n + 1) 3 := by
  intro r w x f S D hr H hZ hM hT hy
  obtain ⟨m1, m2, m3, m4, m5, m6⟩ := hM
  have hw : 1 ≤ r 128 ∧ r 128 ≤ 16 := xbd_s H (e := .var 128) (lo := 1) (hi := 16) (by decide +kernel)
  have hw2 : 1 ≤ w ∧ w ≤ 16 := by omega
  have H1 := xHc (e := .sub (.var 128) (.pow (.add (.pow (.add (.pow (.add (.pow (.add (.var 1048577) (.num 6364136223846793005)) 38) (.num 1442695040888963407)) 36) (.num 33)) 51) (.var 128)) 40)) (lo := 1) (hi := 16) H (by rw [xden_sub, xden_var, yb48P_d, m1, m2]; exact (yb48_w1 (yb48P_r hw2.1 hw2.2) hw2.2).1) (by rw [xden_sub, xden_var, yb48P_d, m1, m2]; exact (yb48_w1 (yb48P_r hw2.1 hw2.2) hw2.2).2)
  refine yz_run hL yq48_C3 hr H1 (xcut_s fun c hc r2 G2 hR => ?_)
  have hr2 : yzr L xs r2 := fun i hi => by rw [hR.2.2.2 i hi]; exact hr i hi
  have aw : r2 128 = w := (hR.2.2.2 128 (by decide)).trans m1
  rw [List.mem_singleton] at hc
  subst hc
  have a1048960 : r2 1048960 = (0 : Int) := yas hR (List.mem_cons_of_mem _ (List.mem_cons_of_mem _ List.mem_cons_self))
  have a1048640 : r2 1048640 = (r 1048640 + (1 : Int)) := yas hR (List.mem_cons_of_mem _ (List.mem_cons_of_mem _ (List.mem_cons_of_mem _ List.mem_cons_self)))
  have a1048704 : r2 1048704 = r 1048704 := yas hR (List.mem_cons_of_mem _ (List.mem_cons_of_mem _ (List.mem_cons_of_mem _ (List.mem_cons_of_mem _ List.mem_cons_self))))
  have fS : ∀ j : Nat, j < 16 → r2 (4194310 + 64 * j) = r (4194310 + 64 * j) := fun j hj => hR.2.1 _ List.mem_cons_self (4194310, 16, 217) List.mem_cons_self rfl j hj
  have fD : ∀ j : Nat, j < 8 → r2 (4195394 + 64 * j) = r (4195394 + 64 * j) := fun j hj => hR.2.1 _ (List.mem_cons_of_mem _ List.mem_cons_self) (4195394, 8, 207) (List.mem_cons_of_mem _ List.mem_cons_self) rfl j hj
  have o1 := hT
  have gS : ∀ k : Nat, (k : Int) < w → r2 (4194310 + 64 * k) = S k := fun k hk => (fS k (by omega)).trans (m4 k hk)
  have gD : ∀ s : Nat, s < 8 → r2 (4195394 + 64 * s) = D s := fun s hs => (fD s (by omega)).trans (m5 s hs)
  have gT : r2 1048640 + (n : Int) = 20000 := by omega
  have a1048577 : r2 1048577 = yb48X (r 1048577) := (yas hR List.mem_cons_self).trans (yb48X_d r)
  have a1049024 : r2 1049024 = yb48P (r 128) (r 1048577) := (yas hR (List.mem_cons_of_mem _ List.mem_cons_self)).trans (yb48P_d r)
  exact hW r2 w (yb48X x) f S D (yb48P w x).toNat hr2 G2 trivial ⟨aw, by rw [a1048577, m2], a1048704.trans m3, gS, gD, m6⟩ gT (yb48_w2 (yb48P_r hw2.1 hw2.2)) (by rw [a1049024, m1, m2]; exact yb48_w3 (yb48P_r hw2.1 hw2.2)) (by rw [a1048960]; exact yb48_w5 _) (yb48_t hy)
theorem y48_W3 {L : Nat} {xs : Nat → Int32} (hL : L ≤ 3584) {y0 : Int} {n : Nat} (hC : yb48C L xs yZ0 y0 yt48_C3 yF48_C3 n 3) (hC1 : yb48C L xs yZ0 y0 yt48_C2 yF48_C2 n 2) (hE0 : yb48E L xs yZ0 y0 (0) yt48_E0 yF48_E0) (hE3 : yb48E L xs yZ0 y0 (-3) yt48_E3 yF48_E3) : yb48W L xs yZ0 y0 yt48_W3 yF48_W3 n 3 := by
  intro r w x f S D p hr H hZ hM hT hp hP hU hy
  suffices main : ∀ d : Nat, ∀ r, yzr L xs r → xH r yF48_W3 → yZ0 r → yb48M r w 3 x f S D → r 1048640 + (n : Int) = 20000 → r 1049024 = (p : Int) → r 1048960 ≤ (p : Int) → (p : Int) - r 1048960 < (d : Int) → xGl (yfT (ykold L xs)) r yzP yt48_W3 from
    main (p + 1) r hr H hZ hM hT hP hU (by
      have hu : 0 ≤ r 1048960 ∧ r 1048960 ≤ 15 := xbd_s H (e := .var 1048960) (lo := 0) (hi := 15) (by decide +kernel)
      omega)
  intro d
  induction d with
  | zero =>
    intro r hr H hZ hM hT hP hU hd
    omega
  | succ d ih =>
    intro r hr H hZ hM hT hP hU hd
    obtain ⟨m1, m2, m3, m4, m5, m6⟩ := hM
    have hw : 1 ≤ r 128 ∧ r 128 ≤ 16 := xbd_s H (e := .var 128) (lo := 1) (hi := 16) (by decide +kernel)
    have hu : 0 ≤ r 1048960 ∧ r 1048960 ≤ 15 := xbd_s H (e := .var 1048960) (lo := 0) (hi := 15) (by decide +kernel)
    have hf : 0 ≤ r 1048704 ∧ r 1048704 ≤ 7 := xbd_s H (e := .var 1048704) (lo := 0) (hi := 7) (by decide +kernel)
    by_cases hup : r 1048960 = (p : Int)
    · have es : r (4194310 + 64 * (r 1048960).toNat) = S p := by
        have e0 : (r 1048960).toNat = p := by omega
        rw [e0]
        exact m4 p hp
      have j1 := m6.1 p hp
      have e : S p = -1 ∨ S p = 0 ∨ S p = 1 ∨ S p = 2 ∨ S p = 3 ∨ S p = 4 := by omega
      rcases e with e | e | e | e | e | e
      · have hv := yb48w_t (q := 2) hy e
        have hv2 := yb48a_n hv (by omega) (by decide)
        have H1 := xHc (e := .sub (.var 128) (.var 1048960)) (lo := 1) (hi := 16) H (show (1 : Int) ≤ (r 128 - r 1048960) by omega) (show (r 128 - r 1048960) ≤ (16 : Int) by omega)
        have H2 := xHc (e := .sub (.var 1048960) (.var 1049024)) (lo := 0) (hi := 0) H1 (show (0 : Int) ≤ (r 1048960 - r 1049024) by omega) (show (r 1048960 - r 1049024) ≤ (0 : Int) by omega)
        have H3 := xHc (e := .pow (.sub (.num 4194310) (.var 1048960)) 0) (lo := -1) (hi := -1) H2 (show (-1 : Int) ≤ r (4194310 + 64 * (r 1048960).toNat) by omega) (show r (4194310 + 64 * (r 1048960).toNat) ≤ (-1 : Int) by omega)
        refine yz_run hL yq48_W3t hr H3 (xcut_s fun c hc r2 G2 hR => ?_)
        have hr2 : yzr L xs r2 := fun i hi => by rw [hR.2.2.2 i hi]; exact hr i hi
        have aw : r2 128 = w := (hR.2.2.2 128 (by decide)).trans m1
        simp only [List.mem_cons, List.not_mem_nil, or_false] at hc
        rcases hc with rfl | rfl
        · have a1048577 : r2 1048577 = r 1048577 := yas hR List.mem_cons_self
          have a1048640 : r2 1048640 = r 1048640 := yas hR (List.mem_cons_of_mem _ List.mem_cons_self)
          have a1048704 : r2 1048704 = r 1048704 := yas hR (List.mem_cons_of_mem _ (List.mem_cons_of_mem _ List.mem_cons_self))
          have fS : ∀ j : Nat, j < 16 → r2 (4194310 + 64 * j) = (bif decide (r 1048960 = (j : Int)) then ((0, 5) : ycV) else (0, r (4194310 + 64 * j))).2 := fun j hj => hR.2.1 _ List.mem_cons_self (4194310, 16, 217) List.mem_cons_self rfl j hj
          have fD : ∀ j : Nat, j < 8 → r2 (4195394 + 64 * j) = r (4195394 + 64 * j) := fun j hj => hR.2.1 _ (List.mem_cons_of_mem _ List.mem_cons_self) (4195394, 8, 207) (List.mem_cons_of_mem _ List.mem_cons_self) rfl j hj
          exact hC1 r2 w x f (yb48u S p (8 - ((2 + 1 : Nat) : Int))) D hr2 G2 trivial ⟨aw, a1048577.trans m2, a1048704.trans m3, fun k hk => yb48_fu (fS k (by omega)) hup (by decide) (m4 k hk), fun s hs => (fD s (by omega)).trans (m5 s hs), yb48J_take m6 hp (by decide)⟩ (by omega) hv2
        · have a1048640 : r2 1048640 = r 1048640 := yas hR List.mem_cons_self
          have a1048704 : r2 1048704 = r 1048704 := yas hR (List.mem_cons_of_mem _ List.mem_cons_self)
          have fS : ∀ j : Nat, j < 16 → r2 (4194310 + 64 * j) = (bif decide (r 1048960 = (j : Int)) then ((0, 5) : ycV) else (0, r (4194310 + 64 * j))).2 := fun j hj => hR.2.1 _ List.mem_cons_self (4194310, 16, 217) List.mem_cons_self rfl j hj
          have fD : ∀ j : Nat, j < 8 → r2 (4195394 + 64 * j) = r (4195394 + 64 * j) := fun j hj => hR.2.1 _ (List.mem_cons_of_mem _ List.mem_cons_self) (4195394, 8, 207) (List.mem_cons_of_mem _ List.mem_cons_self) rfl j hj
          have t0 : (20000 : Int) ≤ r 1048640 ∧ r 1048640 ≤ (20000 : Int) := hR.2.2.1 _ List.mem_cons_self
          have hn : n = 0 := by omega
          subst hn
          exact hE3 (yb48_0 hv2) r2 hr2 G2 trivial
      · have hv := yb48w_s hy (by omega)
        have ed : r 4195394 = 0 := (m5 0 (by decide)).trans (by
          have z := m6.2.2.1 p hp (by omega)
          rw [e] at z
          exact z)
        have H1 := xHc (e := .sub (.var 128) (.var 1048960)) (lo := 1) (hi := 16) H (show (1 : Int) ≤ (r 128 - r 1048960) by omega) (show (r 128 - r 1048960) ≤ (16 : Int) by omega)
        have H2 := xHc (e := .sub (.var 1048960) (.var 1049024)) (lo := 0) (hi := 0) H1 (show (0 : Int) ≤ (r 1048960 - r 1049024) by omega) (show (r 1048960 - r 1049024) ≤ (0 : Int) by omega)
        have H3 := xHc (e := .pow (.sub (.num 4194310) (.var 1048960)) 0) (lo := 0) (hi := 0) H2 (show (0 : Int) ≤ r (4194310 + 64 * (r 1048960).toNat) by omega) (show r (4194310 + 64 * (r 1048960).toNat) ≤ (0 : Int) by omega)
        have H4 := xHc (e := .var 4195394) (lo := 0) (hi := 0) H3 (show (0 : Int) ≤ r 4195394 by omega) (show r 4195394 ≤ (0 : Int) by omega)
        refine yz_run hL yq48_W3s0 hr H4 (xcut_s fun c hc r2 G2 hR => ?_)
        have hr2 : yzr L xs r2 := fun i hi => by rw [hR.2.2.2 i hi]; exact hr i hi
        have aw : r2 128 = w := (hR.2.2.2 128 (by decide)).trans m1
        simp only [List.mem_cons, List.not_mem_nil, or_false] at hc
        rcases hc with rfl | rfl | rfl
        · have a1048640 : r2 1048640 = r 1048640 := yas hR List.mem_cons_self
          have a1048704 : r2 1048704 = (r 1048704 + (1 : Int)) := yas hR (List.mem_cons_of_mem _ List.mem_cons_self)
          have fS : ∀ j : Nat, j < 16 → r2 (4194310 + 64 * j) = (bif decide (r 1048960 = (j : Int)) then ((0, -1) : ycV) else (0, r (4194310 + 64 * j))).2 := fun j hj => hR.2.1 _ List.mem_cons_self (4194310, 16, 217) List.mem_cons_self rfl j hj
          have fD : ∀ j : Nat, j < 8 → r2 (4195394 + 64 * j) = (xct r (.branch 0 (.branch 0 (.branch 0 (.branch 0 (.leaf (0, .add (.var 4195394) (.num 1))) (.leaf (10, .num 4195394))) (.leaf (10, .num 4195394))) (.leaf (10, .num 4195394))) (.leaf (10, .num 4195394))) j).2 := fun j hj => hR.2.1 _ (List.mem_cons_of_mem _ List.mem_cons_self) (4195394, 8, 207) (List.mem_cons_of_mem _ List.mem_cons_self) rfl j hj
          have fD2 : ∀ s : Nat, s < 8 → s ≠ (S p).toNat → r2 (4195394 + 64 * s) = D s := fun s hs hn => ((fD s (by omega)).trans (yb48_d0 r s hs (by omega))).trans (m5 s hs)
          have t0 : (7 : Int) ≤ r 1048704 ∧ r 1048704 ≤ (7 : Int) := hR.2.2.1 _ List.mem_cons_self
          exact hE0 (yb48a_e hv (by omega)) r2 hr2 G2 trivial
        · have a1048577 : r2 1048577 = r 1048577 := yas hR List.mem_cons_self
          have a1048640 : r2 1048640 = r 1048640 := yas hR (List.mem_cons_of_mem _ List.mem_cons_self)
          have a1048704 : r2 1048704 = (r 1048704 + (1 : Int)) := yas hR (List.mem_cons_of_mem _ (List.mem_cons_of_mem _ List.mem_cons_self))
          have fS : ∀ j : Nat, j < 16 → r2 (4194310 + 64 * j) = (bif decide (r 1048960 = (j : Int)) then ((0, -1) : ycV) else (0, r (4194310 + 64 * j))).2 := fun j hj => hR.2.1 _ List.mem_cons_self (4194310, 16, 217) List.mem_cons_self rfl j hj
          have fD : ∀ j : Nat, j < 8 → r2 (4195394 + 64 * j) = (xct r (.branch 0 (.branch 0 (.branch 0 (.branch 0 (.leaf (0, .add (.var 4195394) (.num 1))) (.leaf (10, .num 4195394))) (.leaf (10, .num 4195394))) (.leaf (10, .num 4195394))) (.leaf (10, .num 4195394))) j).2 := fun j hj => hR.2.1 _ (List.mem_cons_of_mem _ List.mem_cons_self) (4195394, 8, 207) (List.mem_cons_of_mem _ List.mem_cons_self) rfl j hj
          have fD2 : ∀ s : Nat, s < 8 → s ≠ (S p).toNat → r2 (4195394 + 64 * s) = D s := fun s hs hn => ((fD s (by omega)).trans (yb48_d0 r s hs (by omega))).trans (m5 s hs)
          have t1 : (0 : Int) ≤ r 1048704 ∧ r 1048704 ≤ (6 : Int) := hR.2.2.1 _ (List.mem_cons_of_mem _ List.mem_cons_self)
          have hv2 := yb48a_n hv (by omega) (by decide)
          exact hC r2 w x (f + 1) (yb48u S p (-1)) (fun s => r2 (4195394 + 64 * s)) hr2 G2 trivial ⟨aw, a1048577.trans m2, by omega, fun k hk => yb48_fu (fS k (by omega)) hup rfl (m4 k hk), fun _ _ => rfl, yb48J_step m6 hp (by omega) fD2 (by decide)⟩ (by omega) hv2
        · have a1048640 : r2 1048640 = r 1048640 := yas hR List.mem_cons_self
          have a1048704 : r2 1048704 = (r 1048704 + (1 : Int)) := yas hR (List.mem_cons_of_mem _ List.mem_cons_self)
          have fS : ∀ j : Nat, j < 16 → r2 (4194310 + 64 * j) = (bif decide (r 1048960 = (j : Int)) then ((0, -1) : ycV) else (0, r (4194310 + 64 * j))).2 := fun j hj => hR.2.1 _ List.mem_cons_self (4194310, 16, 217) List.mem_cons_self rfl j hj
          have fD : ∀ j : Nat, j < 8 → r2 (4195394 + 64 * j) = (xct r (.branch 0 (.branch 0 (.branch 0 (.branch 0 (.leaf (0, .add (.var 4195394) (.num 1))) (.leaf (10, .num 4195394))) (.leaf (10, .num 4195394))) (.leaf (10, .num 4195394))) (.leaf (10, .num 4195394))) j).2 := fun j hj => hR.2.1 _ (List.mem_cons_of_mem _ List.mem_cons_self) (4195394, 8, 207) (List.mem_cons_of_mem _ List.mem_cons_self) rfl j hj
          have fD2 : ∀ s : Nat, s < 8 → s ≠ (S p).toNat → r2 (4195394 + 64 * s) = D s := fun s hs hn => ((fD s (by omega)).trans (yb48_d0 r s hs (by omega))).trans (m5 s hs)
          have t1 : (0 : Int) ≤ r 1048704 ∧ r 1048704 ≤ (6 : Int) := hR.2.2.1 _ (List.mem_cons_of_mem _ List.mem_cons_self)
          have hv2 := yb48a_n hv (by omega) (by decide)
          have t0 : (20000 : Int) ≤ r 1048640 ∧ r 1048640 ≤ (20000 : Int) := hR.2.2.1 _ List.mem_cons_self
          have hn : n = 0 := by omega
          subst hn
          exact hE3 (yb48_0 hv2) r2 hr2 G2 trivial
      · have hv := yb48w_s hy (by omega)
        have ed : r 4195458 = 0 := (m5 1 (by decide)).trans (by
          have z := m6.2.2.1 p hp (by omega)
          rw [e] at z
          exact z)
        have H1 := xHc (e := .sub (.var 128) (.var 1048960)) (lo := 1) (hi := 16) H (show (1 : Int) ≤ (r 128 - r 1048960) by omega) (show (r 128 - r 1048960) ≤ (16 : Int) by omega)
        have H2 := xHc (e := .sub (.var 1048960) (.var 1049024)) (lo := 0) (hi := 0) H1 (show (0 : Int) ≤ (r 1048960 - r 1049024) by omega) (show (r 1048960 - r 1049024) ≤ (0 : Int) by omega)
        have H3 := xHc (e := .pow (.sub (.num 4194310) (.var 1048960)) 0) (lo := 1) (hi := 1) H2 (show (1 : Int) ≤ r (4194310 + 64 * (r 1048960).toNat) by omega) (show r (4194310 + 64 * (r 1048960).toNat) ≤ (1 : Int) by omega)
        have H4 := xHc (e := .var 4195458) (lo := 0) (hi := 0) H3 (show (0 : Int) ≤ r 4195458 by omega) (show r 4195458 ≤ (0 : Int) by omega)
        refine yz_run hL yq48_W3s1 hr H4 (xcut_s fun c hc r2 G2 hR => ?_)
        have hr2 : yzr L xs r2 := fun i hi => by rw [hR.2.2.2 i hi]; exact hr i hi
        have aw : r2 128 = w := (hR.2.2.2 128 (by decide)).trans m1
        simp only [List.mem_cons, List.not_mem_nil, or_false] at hc
        rcases hc with rfl | rfl | rfl
        · have a1048640 : r2 1048640 = r 1048640 := yas hR List.mem_cons_self
          have a1048704 : r2 1048704 = (r 1048704 + (1 : Int)) := yas hR (List.mem_cons_of_mem _ List.mem_cons_self)
          have fS : ∀ j : Nat, j < 16 → r2 (4194310 + 64 * j) = (bif decide (r 1048960 = (j : Int)) then ((0, -1) : ycV) else (0, r (4194310 + 64 * j))).2 := fun j hj => hR.2.1 _ List.mem_cons_self (4194310, 16, 217) List.mem_cons_self rfl j hj
          have fD : ∀ j : Nat, j < 8 → r2 (4195394 + 64 * j) = (xct r (.branch 0 (.leaf (10, .num 4195394)) (.branch 0 (.branch 0 (.branch 0 (.leaf (0, .add (.var 4195458) (.num 1))) (.leaf (10, .num 4195394))) (.leaf (10, .num 4195394))) (.leaf (10, .num 4195394)))) j).2 := fun j hj => hR.2.1 _ (List.mem_cons_of_mem _ List.mem_cons_self) (4195394, 8, 207) (List.mem_cons_of_mem _ List.mem_cons_self) rfl j hj
          have fD2 : ∀ s : Nat, s < 8 → s ≠ (S p).toNat → r2 (4195394 + 64 * s) = D s := fun s hs hn => ((fD s (by omega)).trans (yb48_d1 r s hs (by omega))).trans (m5 s hs)
          have t0 : (7 : Int) ≤ r 1048704 ∧ r 1048704 ≤ (7 : Int) := hR.2.2.1 _ List.mem_cons_self
          exact hE0 (yb48a_e hv (by omega)) r2 hr2 G2 trivial
        · have a1048577 : r2 1048577 = r 1048577 := yas hR List.mem_cons_self
          have a1048640 : r2 1048640 = r 1048640 := yas hR (List.mem_cons_of_mem _ List.mem_cons_self)
          have a1048704 : r2 1048704 = (r 1048704 + (1 : Int)) := yas hR (List.mem_cons_of_mem _ (List.mem_cons_of_mem _ List.mem_cons_self))
          have fS : ∀ j : Nat, j < 16 → r2 (4194310 + 64 * j) = (bif decide (r 1048960 = (j : Int)) then ((0, -1) : ycV) else (0, r (4194310 + 64 * j))).2 := fun j hj => hR.2.1 _ List.mem_cons_self (4194310, 16, 217) List.mem_cons_self rfl j hj
          have fD : ∀ j : Nat, j < 8 → r2 (4195394 + 64 * j) = (xct r (.branch 0 (.leaf (10, .num 4195394)) (.branch 0 (.branch 0 (.branch 0 (.leaf (0, .add (.var 4195458) (.num 1))) (.leaf (10, .num 4195394))) (.leaf (10, .num 4195394))) (.leaf (10, .num 4195394)))) j).2 := fun j hj => hR.2.1 _ (List.mem_cons_of_mem _ List.mem_cons_self) (4195394, 8, 207) (List.mem_cons_of_mem _ List.mem_cons_self) rfl j hj
          have fD2 : ∀ s : Nat, s < 8 → s ≠ (S p).toNat → r2 (4195394 + 64 * s) = D s := fun s hs hn => ((fD s (by omega)).trans (yb48_d1 r s hs (by omega))).trans (m5 s hs)
          have t1 : (0 : Int) ≤ r 1048704 ∧ r 1048704 ≤ (6 : Int) := hR.2.2.1 _ (List.mem_cons_of_mem _ List.mem_cons_self)
          have hv2 := yb48a_n hv (by omega) (by decide)
          exact hC r2 w x (f + 1) (yb48u S p (-1)) (fun s => r2 (4195394 + 64 * s)) hr2 G2 trivial ⟨aw, a1048577.trans m2, by omega, fun k hk => yb48_fu (fS k (by omega)) hup rfl (m4 k hk), fun _ _ => rfl, yb48J_step m6 hp (by omega) fD2 (by decide)⟩ (by omega) hv2
        · have a1048640 : r2 1048640 = r 1048640 := yas hR List.mem_cons_self
          have a1048704 : r2 1048704 = (r 1048704 + (1 : Int)) := yas hR (List.mem_cons_of_mem _ List.mem_cons_self)
          have fS : ∀ j : Nat, j < 16 → r2 (4194310 + 64 * j) = (bif decide (r 1048960 = (j : Int)) then ((0, -1) : ycV) else (0, r (4194310 + 64 * j))).2 := fun j hj => hR.2.1 _ List.mem_cons_self (4194310, 16, 217) List.mem_cons_self rfl j hj
          have fD : ∀ j : Nat, j < 8 → r2 (4195394 + 64 * j) = (xct r (.branch 0 (.leaf (10, .num 4195394)) (.branch 0 (.branch 0 (.branch 0 (.leaf (0, .add (.var 4195458) (.num 1))) (.leaf (10, .num 4195394))) (.leaf (10, .num 4195394))) (.leaf (10, .num 4195394)))) j).2 := fun j hj => hR.2.1 _ (List.mem_cons_of_mem _ List.mem_cons_self) (4195394, 8, 207) (List.mem_cons_of_mem _ List.mem_cons_self) rfl j hj
          have fD2 : ∀ s : Nat, s < 8 → s ≠ (S p).toNat → r2 (4195394 + 64 * s) = D s := fun s hs hn => ((fD s (by omega)).trans (yb48_d1 r s hs (by omega))).trans (m5 s hs)
          have t1 : (0 : Int) ≤ r 1048704 ∧ r 1048704 ≤ (6 : Int) := hR.2.2.1 _ (List.mem_cons_of_mem _ List.mem_cons_self)
          have hv2 := yb48a_n hv (by omega) (by decide)
          have t0 : (20000 : Int) ≤ r 1048640 ∧ r 1048640 ≤ (20000 : Int) := hR.2.2.1 _ List.mem_cons_self
          have hn : n = 0 := by omega
          subst hn
          exact hE3 (yb48_0 hv2) r2 hr2 G2 trivial
      · have hv := yb48w_s hy (by omega)
        have ed : r 4195522 = 0 := (m5 2 (by decide)).trans (by
          have z := m6.2.2.1 p hp (by omega)
          rw [e] at z
          exact z)
        have H1 := xHc (e := .sub (.var 128) (.var 1048960)) (lo := 1) (hi := 16) H (show (1 : Int) ≤ (r 128 - r 1048960) by omega) (show (r 128 - r 1048960) ≤ (16 : Int) by omega)
        have H2 := xHc (e := .sub (.var 1048960) (.var 1049024)) (lo := 0) (hi := 0) H1 (show (0 : Int) ≤ (r 1048960 - r 1049024) by omega) (show (r 1048960 - r 1049024) ≤ (0 : Int) by omega)
        have H3 := xHc (e := .pow (.sub (.num 4194310) (.var 1048960)) 0) (lo := 2) (hi := 2) H2 (show (2 : Int) ≤ r (4194310 + 64 * (r 1048960).toNat) by omega) (show r (4194310 + 64 * (r 1048960).toNat) ≤ (2 : Int) by omega)
        have H4 := xHc (e := .var 4195522) (lo := 0) (hi := 0) H3 (show (0 : Int) ≤ r 4195522 by omega) (show r 4195522 ≤ (0 : Int) by omega)
        refine yz_run hL yq48_W3s2 hr H4 (xcut_s fun c hc r2 G2 hR => ?_)
        have hr2 : yzr L xs r2 := fun i hi => by rw [hR.2.2.2 i hi]; exact hr i hi
        have aw : r2 128 = w := (hR.2.2.2 128 (by decide)).trans m1
        simp only [List.mem_cons, List.not_mem_nil, or_false] at hc
        rcases hc with rfl | rfl | rfl
        · have a1048640 : r2 1048640 = r 1048640 := yas hR List.mem_cons_self
          have a1048704 : r2 1048704 = (r 1048704 + (1 : Int)) := yas hR (List.mem_cons_of_mem _ List.mem_cons_self)
          have fS : ∀ j : Nat, j < 16 → r2 (4194310 + 64 * j) = (bif decide (r 1048960 = (j : Int)) then ((0, -1) : ycV) else (0, r (4194310 + 64 * j))).2 := fun j hj => hR.2.1 _ List.mem_cons_self (4194310, 16, 217) List.mem_cons_self rfl j hj
          have fD : ∀ j : Nat, j < 8 → r2 (4195394 + 64 * j) = (xct r (.branch 0 (.branch 0 (.leaf (10, .num 4195394)) (.branch 0 (.branch 0 (.leaf (0, .add (.var 4195522) (.num 1))) (.leaf (10, .num 4195394))) (.leaf (10, .num 4195394)))) (.leaf (10, .num 4195394))) j).2 := fun j hj => hR.2.1 _ (List.mem_cons_of_mem _ List.mem_cons_self) (4195394, 8, 207) (List.mem_cons_of_mem _ List.mem_cons_self) rfl j hj
          have fD2 : ∀ s : Nat, s < 8 → s ≠ (S p).toNat → r2 (4195394 + 64 * s) = D s := fun s hs hn => ((fD s (by omega)).trans (yb48_d2 r s hs (by omega))).trans (m5 s hs)
          have t0 : (7 : Int) ≤ r 1048704 ∧ r 1048704 ≤ (7 : Int) := hR.2.2.1 _ List.mem_cons_self
          exact hE0 (yb48a_e hv (by omega)) r2 hr2 G2 trivial
        · have a1048577 : r2 1048577 = r 1048577 := yas hR List.mem_cons_self
          have a1048640 : r2 1048640 = r 1048640 := yas hR (List.mem_cons_of_mem _ List.mem_cons_self)
          have a1048704 : r2 1048704 = (r 1048704 + (1 : Int)) := yas hR (List.mem_cons_of_mem _ (List.mem_cons_of_mem _ List.mem_cons_self))
          have fS : ∀ j : Nat, j < 16 → r2 (4194310 + 64 * j) = (bif decide (r 1048960 = (j : Int)) then ((0, -1) : ycV) else (0, r (4194310 + 64 * j))).2 := fun j hj => hR.2.1 _ List.mem_cons_self (4194310, 16, 217) List.mem_cons_self rfl j hj
          have fD : ∀ j : Nat, j < 8 → r2 (4195394 + 64 * j) = (xct r (.branch 0 (.branch 0 (.leaf (10, .num 4195394)) (.branch 0 (.branch 0 (.leaf (0, .add (.var 4195522) (.num 1))) (.leaf (10, .num 4195394))) (.leaf (10, .num 4195394)))) (.leaf (10, .num 4195394))) j).2 := fun j hj => hR.2.1 _ (List.mem_cons_of_mem _ List.mem_cons_self) (4195394, 8, 207) (List.mem_cons_of_mem _ List.mem_cons_self) rfl j hj
          have fD2 : ∀ s : Nat, s < 8 → s ≠ (S p).toNat → r2 (4195394 + 64 * s) = D s := fun s hs hn => ((fD s (by omega)).trans (yb48_d2 r s hs (by omega))).trans (m5 s hs)
          have t1 : (0 : Int) ≤ r 1048704 ∧ r 1048704 ≤ (6 : Int) := hR.2.2.1 _ (List.mem_cons_of_mem _ List.mem_cons_self)
          have hv2 := yb48a_n hv (by omega) (by decide)
          exact hC r2 w x (f + 1) (yb48u S p (-1)) (fun s => r2 (4195394 + 64 * s)) hr2 G2 trivial ⟨aw, a1048577.trans m2, by omega, fun k hk => yb48_fu (fS k (by omega)) hup rfl (m4 k hk), fun _ _ => rfl, yb48J_step m6 hp (by omega) fD2 (by decide)⟩ (by omega) hv2
        · have a1048640 : r2 1048640 = r 1048640 := yas hR List.mem_cons_self
          have a1048704 : r2 1048704 = (r 1048704 + (1 : Int)) := yas hR (List.mem_cons_of_mem _ List.mem_cons_self)
          have fS : ∀ j : Nat, j < 16 → r2 (4194310 + 64 * j) = (bif decide (r 1048960 = (j : Int)) then ((0, -1) : ycV) else (0, r (4194310 + 64 * j))).2 := fun j hj => hR.2.1 _ List.mem_cons_self (4194310, 16, 217) List.mem_cons_self rfl j hj
          have fD : ∀ j : Nat, j < 8 → r2 (4195394 + 64 * j) = (xct r (.branch 0 (.branch 0 (.leaf (10, .num 4195394)) (.branch 0 (.branch 0 (.leaf (0, .add (.var 4195522) (.num 1))) (.leaf (10, .num 4195394))) (.leaf (10, .num 4195394)))) (.leaf (10, .num 4195394))) j).2 := fun j hj => hR.2.1 _ (List.mem_cons_of_mem _ List.mem_cons_self) (4195394, 8, 207) (List.mem_cons_of_mem _ List.mem_cons_self) rfl j hj
          have fD2 : ∀ s : Nat, s < 8 → s ≠ (S p).toNat → r2 (4195394 + 64 * s) = D s := fun s hs hn => ((fD s (by omega)).trans (yb48_d2 r s hs (by omega))).trans (m5 s hs)
          have t1 : (0 : Int) ≤ r 1048704 ∧ r 1048704 ≤ (6 : Int) := hR.2.2.1 _ (List.mem_cons_of_mem _ List.mem_cons_self)
          have hv2 := yb48a_n hv (by omega) (by decide)
          have t0 : (20000 : Int) ≤ r 1048640 ∧ r 1048640 ≤ (20000 : Int) := hR.2.2.1 _ List.mem_cons_self
          have hn : n = 0 := by omega
          subst hn
          exact hE3 (yb48_0 hv2) r2 hr2 G2 trivial
      · have hv := yb48w_s hy (by omega)
        have ed : r 4195586 = 0 := (m5 3 (by decide)).trans (by
          have z := m6.2.2.1 p hp (by omega)
          rw [e] at z
          exact z)
        have H1 := xHc (e := .sub (.var 128) (.var 1048960)) (lo := 1) (hi := 16) H (show (1 : Int) ≤ (r 128 - r 1048960) by omega) (show (r 128 - r 1048960) ≤ (16 : Int) by omega)
        have H2 := xHc (e := .sub (.var 1048960) (.var 1049024)) (lo := 0) (hi := 0) H1 (show (0 : Int) ≤ (r 1048960 - r 1049024) by omega) (show (r 1048960 - r 1049024) ≤ (0 : Int) by omega)
        have H3 := xHc (e := .pow (.sub (.num 4194310) (.var 1048960)) 0) (lo := 3) (hi := 3) H2 (show (3 : Int) ≤ r (4194310 + 64 * (r 1048960).toNat) by omega) (show r (4194310 + 64 * (r 1048960).toNat) ≤ (3 : Int) by omega)
        have H4 := xHc (e := .var 4195586) (lo := 0) (hi := 0) H3 (show (0 : Int) ≤ r 4195586 by omega) (show r 4195586 ≤ (0 : Int) by omega)
        refine yz_run hL yq48_W3s3 hr H4 (xcut_s fun c hc r2 G2 hR => ?_)
        have hr2 : yzr L xs r2 := fun i hi => by rw [hR.2.2.2 i hi]; exact hr i hi
        have aw : r2 128 = w := (hR.2.2.2 128 (by decide)).trans m1
        simp only [List.mem_cons, List.not_mem_nil, or_false] at hc
        rcases hc with rfl | rfl | rfl
        · have a1048640 : r2 1048640 = r 1048640 := yas hR List.mem_cons_self
          have a1048704 : r2 1048704 = (r 1048704 + (1 : Int)) := yas hR (List.mem_cons_of_mem _ List.mem_cons_self)
          have fS : ∀ j : Nat, j < 16 → r2 (4194310 + 64 * j) = (bif decide (r 1048960 = (j : Int)) then ((0, -1) : ycV) else (0, r (4194310 + 64 * j))).2 := fun j hj => hR.2.1 _ List.mem_cons_self (4194310, 16, 217) List.mem_cons_self rfl j hj
          have fD : ∀ j : Nat, j < 8 → r2 (4195394 + 64 * j) = (xct r (.branch 0 (.leaf (10, .num 4195394)) (.branch 0 (.leaf (10, .num 4195394)) (.branch 0 (.branch 0 (.leaf (0, .add (.var 4195586) (.num 1))) (.leaf (10, .num 4195394))) (.leaf (10, .num 4195394))))) j).2 := fun j hj => hR.2.1 _ (List.mem_cons_of_mem _ List.mem_cons_self) (4195394, 8, 207) (List.mem_cons_of_mem _ List.mem_cons_self) rfl j hj
          have fD2 : ∀ s : Nat, s < 8 → s ≠ (S p).toNat → r2 (4195394 + 64 * s) = D s := fun s hs hn => ((fD s (by omega)).trans (yb48_d3 r s hs (by omega))).trans (m5 s hs)
          have t0 : (7 : Int) ≤ r 1048704 ∧ r 1048704 ≤ (7 : Int) := hR.2.2.1 _ List.mem_cons_self
          exact hE0 (yb48a_e hv (by omega)) r2 hr2 G2 trivial
        · have a1048577 : r2 1048577 = r 1048577 := yas hR List.mem_cons_self
          have a1048640 : r2 1048640 = r 1048640 := yas hR (List.mem_cons_of_mem _ List.mem_cons_self)
          have a1048704 : r2 1048704 = (r 1048704 + (1 : Int)) := yas hR (List.mem_cons_of_mem _ (List.mem_cons_of_mem _ List.mem_cons_self))
          have fS : ∀ j : Nat, j < 16 → r2 (4194310 + 64 * j) = (bif decide (r 1048960 = (j : Int)) then ((0, -1) : ycV) else (0, r (4194310 + 64 * j))).2 := fun j hj => hR.2.1 _ List.mem_cons_self (4194310, 16, 217) List.mem_cons_self rfl j hj
          have fD : ∀ j : Nat, j < 8 → r2 (4195394 + 64 * j) = (xct r (.branch 0 (.leaf (10, .num 4195394)) (.branch 0 (.leaf (10, .num 4195394)) (.branch 0 (.branch 0 (.leaf (0, .add (.var 4195586) (.num 1))) (.leaf (10, .num 4195394))) (.leaf (10, .num 4195394))))) j).2 := fun j hj => hR.2.1 _ (List.mem_cons_of_mem _ List.mem_cons_self) (4195394, 8, 207) (List.mem_cons_of_mem _ List.mem_cons_self) rfl j hj
          have fD2 : ∀ s : Nat, s < 8 → s ≠ (S p).toNat → r2 (4195394 + 64 * s) = D s := fun s hs hn => ((fD s (by omega)).trans (yb48_d3 r s hs (by omega))).trans (m5 s hs)
          have t1 : (0 : Int) ≤ r 1048704 ∧ r 1048704 ≤ (6 : Int) := hR.2.2.1 _ (List.mem_cons_of_mem _ List.mem_cons_self)
          have hv2 := yb48a_n hv (by omega) (by decide)
          exact hC r2 w x (f + 1) (yb48u S p (-1)) (fun s => r2 (4195394 + 64 * s)) hr2 G2 trivial ⟨aw, a1048577.trans m2, by omega, fun k hk => yb48_fu (fS k (by omega)) hup rfl (m4 k hk), fun _ _ => rfl, yb48J_step m6 hp (by omega) fD2 (by decide)⟩ (by omega) hv2
        · have a1048640 : r2 1048640 = r 1048640 := yas hR List.mem_cons_self
          have a1048704 : r2 1048704 = (r 1048704 + (1 : Int)) := yas hR (List.mem_cons_of_mem _ List.mem_cons_self)
          have fS : ∀ j : Nat, j < 16 → r2 (4194310 + 64 * j) = (bif decide (r 1048960 = (j : Int)) then ((0, -1) : ycV) else (0, r (4194310 + 64 * j))).2 := fun j hj => hR.2.1 _ List.mem_cons_self (4194310, 16, 217) List.mem_cons_self rfl j hj
          have fD : ∀ j : Nat, j < 8 → r2 (4195394 + 64 * j) = (xct r (.branch 0 (.leaf (10, .num 4195394)) (.branch 0 (.leaf (10, .num 4195394)) (.branch 0 (.branch 0 (.leaf (0, .add (.var 4195586) (.num 1))) (.leaf (10, .num 4195394))) (.leaf (10, .num 4195394))))) j).2 := fun j hj => hR.2.1 _ (List.mem_cons_of_mem _ List.mem_cons_self) (4195394, 8, 207) (List.mem_cons_of_mem _ List.mem_cons_self) rfl j hj
          have fD2 : ∀ s : Nat, s < 8 → s ≠ (S p).toNat → r2 (4195394 + 64 * s) = D s := fun s hs hn => ((fD s (by omega)).trans (yb48_d3 r s hs (by omega))).trans (m5 s hs)
          have t1 : (0 : Int) ≤ r 1048704 ∧ r 1048704 ≤ (6 : Int) := hR.2.2.1 _ (List.mem_cons_of_mem _ List.mem_cons_self)
          have hv2 := yb48a_n hv (by omega) (by decide)
          have t0 : (20000 : Int) ≤ r 1048640 ∧ r 1048640 ≤ (20000 : Int) := hR.2.2.1 _ List.mem_cons_self
          have hn : n = 0 := by omega
          subst hn
          exact hE3 (yb48_0 hv2) r2 hr2 G2 trivial
      · have hv := yb48w_s hy (by omega)
        have ed : r 4195650 = 0 := (m5 4 (by decide)).trans (by
          have z := m6.2.2.1 p hp (by omega)
          rw [e] at z
          exact z)
        have H1 := xHc (e := .sub (.var 128) (.var 1048960)) (lo := 1) (hi := 16) H (show (1 : Int) ≤ (r 128 - r 1048960) by omega) (show (r 128 - r 1048960) ≤ (16 : Int) by omega)
        have H2 := xHc (e := .sub (.var 1048960) (.var 1049024)) (lo := 0) (hi := 0) H1 (show (0 : Int) ≤ (r 1048960 - r 1049024) by omega) (show (r 1048960 - r 1049024) ≤ (0 : Int) by omega)
        have H3 := xHc (e := .pow (.sub (.num 4194310) (.var 1048960)) 0) (lo := 4) (hi := 4) H2 (show (4 : Int) ≤ r (4194310 + 64 * (r 1048960).toNat) by omega) (show r (4194310 + 64 * (r 1048960).toNat) ≤ (4 : Int) by omega)
        have H4 := xHc (e := .var 4195650) (lo := 0) (hi := 0) H3 (show (0 : Int) ≤ r 4195650 by omega) (show r 4195650 ≤ (0 : Int) by omega)
        refine yz_run hL yq48_W3s4 hr H4 (xcut_s fun c hc r2 G2 hR => ?_)
        have hr2 : yzr L xs r2 := fun i hi => by rw [hR.2.2.2 i hi]; exact hr i hi
        have aw : r2 128 = w := (hR.2.2.2 128 (by decide)).trans m1
        simp only [List.mem_cons, List.not_mem_nil, or_false] at hc
        rcases hc with rfl | rfl | rfl
        · have a1048640 : r2 1048640 = r 1048640 := yas hR List.mem_cons_self
          have a1048704 : r2 1048704 = (r 1048704 + (1 : Int)) := yas hR (List.mem_cons_of_mem _ List.mem_cons_self)
          have fS : ∀ j : Nat, j < 16 → r2 (4194310 + 64 * j) = (bif decide (r 1048960 = (j : Int)) then ((0, -1) : ycV) else (0, r (4194310 + 64 * j))).2 := fun j hj => hR.2.1 _ List.mem_cons_self (4194310, 16, 217) List.mem_cons_self rfl j hj
          have fD : ∀ j : Nat, j < 8 → r2 (4195394 + 64 * j) = (xct r (.branch 0 (.branch 0 (.branch 0 (.leaf (10, .num 4195394)) (.branch 0 (.leaf (0, .add (.var 4195650) (.num 1))) (.leaf (10, .num 4195394)))) (.leaf (10, .num 4195394))) (.leaf (10, .num 4195394))) j).2 := fun j hj => hR.2.1 _ (List.mem_cons_of_mem _ List.mem_cons_self) (4195394, 8, 207) (List.mem_cons_of_mem _ List.mem_cons_self) rfl j hj
          have fD2 : ∀ s : Nat, s < 8 → s ≠ (S p).toNat → r2 (4195394 + 64 * s) = D s := fun s hs hn => ((fD s (by omega)).trans (yb48_d4 r s hs (by omega))).trans (m5 s hs)
          have t0 : (7 : Int) ≤ r 1048704 ∧ r 1048704 ≤ (7 : Int) := hR.2.2.1 _ List.mem_cons_self
          exact hE0 (yb48a_e hv (by omega)) r2 hr2 G2 trivial
        · have a1048577 : r2 1048577 = r 1048577 := yas hR List.mem_cons_self
          have a1048640 : r2 1048640 = r 1048640 := yas hR (List.mem_cons_of_mem _ List.mem_cons_self)
          have a1048704 : r2 1048704 = (r 1048704 + (1 : Int)) := yas hR (List.mem_cons_of_mem _ (List.mem_cons_of_mem _ List.mem_cons_self))
          have fS : ∀ j : Nat, j < 16 → r2 (4194310 + 64 * j) = (bif decide (r 1048960 = (j : Int)) then ((0, -1) : ycV) else (0, r (4194310 + 64 * j))).2 := fun j hj => hR.2.1 _ List.mem_cons_self (4194310, 16, 217) List.mem_cons_self rfl j hj
          have fD : ∀ j : Nat, j < 8 → r2 (4195394 + 64 * j) = (xct r (.branch 0 (.branch 0 (.branch 0 (.leaf (10, .num 4195394)) (.branch 0 (.leaf (0, .add (.var 4195650) (.num 1))) (.leaf (10, .num 4195394)))) (.leaf (10, .num 4195394))) (.leaf (10, .num 4195394))) j).2 := fun j hj => hR.2.1 _ (List.mem_cons_of_mem _ List.mem_cons_self) (4195394, 8, 207) (List.mem_cons_of_mem _ List.mem_cons_self) rfl j hj
          have fD2 : ∀ s : Nat, s < 8 → s ≠ (S p).toNat → r2 (4195394 + 64 * s) = D s := fun s hs hn => ((fD s (by omega)).trans (yb48_d4 r s hs (by omega))).trans (m5 s hs)
          have t1 : (0 : Int) ≤ r 1048704 ∧ r 1048704 ≤ (6 : Int) := hR.2.2.1 _ (List.mem_cons_of_mem _ List.mem_cons_self)
          have hv2 := yb48a_n hv (by omega) (by decide)
          exact hC r2 w x (f + 1) (yb48u S p (-1)) (fun s => r2 (4195394 + 64 * s)) hr2 G2 trivial ⟨aw, a1048577.trans m2, by omega, fun k hk => yb48_fu (fS k (by omega)) hup rfl (m4 k hk), fun _ _ => rfl, yb48J_step m6 hp (by omega) fD2 (by decide)⟩ (by omega) hv2
        · have a1048640 : r2 1048640 = r 1048640 := yas hR List.mem_cons_self
          have a1048704 : r2 1048704 = (r 1048704 + (1 : Int)) := yas hR (List.mem_cons_of_mem _ List.mem_cons_self)
          have fS : ∀ j : Nat, j < 16 → r2 (4194310 + 64 * j) = (bif decide (r 1048960 = (j : Int)) then ((0, -1) : ycV) else (0, r (4194310 + 64 * j))).2 := fun j hj => hR.2.1 _ List.mem_cons_self (4194310, 16, 217) List.mem_cons_self rfl j hj
          have fD : ∀ j : Nat, j < 8 → r2 (4195394 + 64 * j) = (xct r (.branch 0 (.branch 0 (.branch 0 (.leaf (10, .num 4195394)) (.branch 0 (.leaf (0, .add (.var 4195650) (.num 1))) (.leaf (10, .num 4195394)))) (.leaf (10, .num 4195394))) (.leaf (10, .num 4195394))) j).2 := fun j hj => hR.2.1 _ (List.mem_cons_of_mem _ List.mem_cons_self) (4195394, 8, 207) (List.mem_cons_of_mem _ List.mem_cons_self) rfl j hj
          have fD2 : ∀ s : Nat, s < 8 → s ≠ (S p).toNat → r2 (4195394 + 64 * s) = D s := fun s hs hn => ((fD s (by omega)).trans (yb48_d4 r s hs (by omega))).trans (m5 s hs)
          have t1 : (0 : Int) ≤ r 1048704 ∧ r 1048704 ≤ (6 : Int) := hR.2.2.1 _ (List.mem_cons_of_mem _ List.mem_cons_self)
          have hv2 := yb48a_n hv (by omega) (by decide)
          have t0 : (20000 : Int) ≤ r 1048640 ∧ r 1048640 ≤ (20000 : Int) := hR.2.2.1 _ List.mem_cons_self
          have hn : n = 0 := by omega
          subst hn
          exact hE3 (yb48_0 hv2) r2 hr2 G2 trivial
    · have H1 := xHc (e := .sub (.var 128) (.var 1048960)) (lo := 1) (hi := 16) H (show (1 : Int) ≤ (r 128 - r 1048960) by omega) (show (r 128 - r 1048960) ≤ (16 : Int) by omega)
      have H2 := xHc (e := .sub (.var 1048960) (.var 1049024)) (lo := -15) (hi := -1) H1 (show (-15 : Int) ≤ (r 1048960 - r 1049024) by omega) (show (r 1048960 - r 1049024) ≤ (-1 : Int) by omega)
      refine yz_run hL yq48_W3n hr H2 (xcut_s fun c hc r2 G2 hR => ?_)
      have hr2 : yzr L xs r2 := fun i hi => by rw [hR.2.2.2 i hi]; exact hr i hi
      have aw : r2 128 = w := (hR.2.2.2 128 (by decide)).trans m1
      rw [List.mem_singleton] at hc
      subst hc
      have a1048577 : r2 1048577 = r 1048577 := yas hR List.mem_cons_self
      have a1049024 : r2 1049024 = r 1049024 := yas hR (List.mem_cons_of_mem _ List.mem_cons_self)
      have a1048960 : r2 1048960 = (r 1048960 + (1 : Int)) := yas hR (List.mem_cons_of_mem _ (List.mem_cons_of_mem _ List.mem_cons_self))
      have a1048640 : r2 1048640 = r 1048640 := yas hR (List.mem_cons_of_mem _ (List.mem_cons_of_mem _ (List.mem_cons_of_mem _ List.mem_cons_self)))
      have a1048704 : r2 1048704 = r 1048704 := yas hR (List.mem_cons_of_mem _ (List.mem_cons_of_mem _ (List.mem_cons_of_mem _ (List.mem_cons_of_mem _ List.mem_cons_self))))
      have fS : ∀ j : Nat, j < 16 → r2 (4194310 + 64 * j) = r (4194310 + 64 * j) := fun j hj => hR.2.1 _ List.mem_cons_self (4194310, 16, 217) List.mem_cons_self rfl j hj
      have fD : ∀ j : Nat, j < 8 → r2 (4195394 + 64 * j) = r (4195394 + 64 * j) := fun j hj => hR.2.1 _ (List.mem_cons_of_mem _ List.mem_cons_self) (4195394, 8, 207) (List.mem_cons_of_mem _ List.mem_cons_self) rfl j hj
      exact ih r2 hr2 G2 trivial ⟨aw, a1048577.trans m2, a1048704.trans m3, fun k hk => (fS k (by omega)).trans (m4 k hk), fun s hs => (fD s (by omega)).trans (m5 s hs), m6⟩ (by omega) (by omega) (by omega) (by omega)
theorem y48_C4 {L : Nat} {xs : Nat → Int32} (hL : L ≤ 3584) {y0 : Int} {n : Nat} (hW : yb48W L xs yZ0 y0 yt48_W4 yF48_W4 n 4) : yb48C L xs yZ0 y0 yt48_C4 yF48_C4 (n + 1) 4 := by
  intro r w x f S D hr H hZ hM hT hy
  obtain ⟨m1, m2, m3, m4, m5, m6⟩ := hM
  have hw : 1 ≤ r 128 ∧ r 128 ≤ 16 := xbd_s H (e := .var 128) (lo := 1) (hi := 16) (by decide +kernel)
  have hw2 : 1 ≤ w ∧ w ≤ 16 := by omega
  have H1 := xHc (e := .sub (.var 128) (.pow (.add (.pow (.add (.pow (.add (.pow (.add (.var 1048577) (.num 6364136223846793005)) 38) (.num 1442695040888963407)) 36) (.num 33)) 51) (.var 128)) 40)) (lo := 1) (hi := 16) H (by rw [xden_sub, xden_var, yb48P_d, m1, m2]; exact (yb48_w1 (yb48P_r hw2.1 hw2.2) hw2.2).1) (by rw [xden_sub, xden_var, yb48P_d, m1, m2]; exact (yb48_w1 (yb48P_r hw2.1 hw2.2) hw2.2).2)
  refine yz_run hL yq48_C4 hr H1 (xcut_s fun c hc r2 G2 hR => ?_)
  have hr2 : yzr L xs r2 := fun i hi => by rw [hR.2.2.2 i hi]; exact hr i hi
  have aw : r2 128 = w := (hR.2.2.2 128 (by decide)).trans m1
  rw [List.mem_singleton] at hc
  subst hc
  have a1048960 : r2 1048960 = (0 : Int) := yas hR (List.mem_cons_of_mem _ (List.mem_cons_of_mem _ List.mem_cons_self))
  have a1048640 : r2 1048640 = (r 1048640 + (1 : Int)) := yas hR (List.mem_cons_of_mem _ (List.mem_cons_of_mem _ (List.mem_cons_of_mem _ List.mem_cons_self)))
  have a1048704 : r2 1048704 = r 1048704 := yas hR (List.mem_cons_of_mem _ (List.mem_cons_of_mem _ (List.mem_cons_of_mem _ (List.mem_cons_of_mem _ List.mem_cons_self))))
  have fS : ∀ j : Nat, j < 16 → r2 (4194310 + 64 * j) = r (4194310 + 64 * j) := fun j hj => hR.2.1 _ List.mem_cons_self (4194310, 16, 217) List.mem_cons_self rfl j hj
  have fD : ∀ j : Nat, j < 8 → r2 (4195394 + 64 * j) = r (4195394 + 64 * j) := fun j hj => hR.2.1 _ (List.mem_cons_of_mem _ List.mem_cons_self) (4195394, 8, 207) (List.mem_cons_of_mem _ List.mem_cons_self) rfl j hj
  have o1 := hT
  have gS : ∀ k : Nat, (k : Int) < w → r2 (4194310 + 64 * k) = S k := fun k hk => (fS k (by omega)).trans (m4 k hk)
  have gD : ∀ s : Nat, s < 8 → r2 (4195394 + 64 * s) = D s := fun s hs => (fD s (by omega)).trans (m5 s hs)
  have gT : r2 1048640 + (n : Int) = 20000 := by omega
  have a1048577 : r2 1048577 = yb48X (r 1048577) := (yas hR List.mem_cons_self).trans (yb48X_d r)
  have a1049024 : r2 1049024 = yb48P (r 128) (r 1048577) := (yas hR (List.mem_cons_of_mem _ List.mem_cons_self)).trans (yb48P_d r)
  exact hW r2 w (yb48X x) f S D (yb48P w x).toNat hr2 G2 trivial ⟨aw, by rw [a1048577, m2], a1048704.trans m3, gS, gD, m6⟩ gT (yb48_w2 (yb48P_r hw2.1 hw2.2)) (by rw [a1049024, m1, m2]; exact yb48_w3 (yb48P_r hw2.1 hw2.2)) (by rw [a1048960]; exact yb48_w5 _) (yb48_t hy)
theorem y48_W4 {L : Nat} {xs : Nat → Int32} (hL : L ≤ 3584) {y0 : Int} {n : Nat} (hC : yb48C L xs yZ0 y0 yt48_C4 yF48_C4 n 4) (hC1 : yb48C L xs yZ0 y0 yt48_C3 yF48_C3 n 3) (hE0 : yb48E L xs yZ0 y0 (0) yt48_E0 yF48_E0) (hE3 : yb48E L xs yZ0 y0 (-3) yt48_E3 yF48_E3) : yb48W L xs yZ0 y0 yt48_W4 yF48_W4 n 4 := by
  intro r w x f S D p hr H hZ hM hT hp hP hU hy
  suffices main : ∀ d : Nat, ∀ r, yzr L xs r → xH r yF48_W4 → yZ0 r → yb48M r w 4 x f S D → r 1048640 + (n : Int) = 20000 → r 1049024 = (p : Int) → r 1048960 ≤ (p : Int) → (p : Int) - r 1048960 < (d : Int) → xGl (yfT (ykold L xs)) r yzP yt48_W4 from
    main (p + 1) r hr H hZ hM hT hP hU (by
      have hu : 0 ≤ r 1048960 ∧ r 1048960 ≤ 15 := xbd_s H (e := .var 1048960) (lo := 0) (hi := 15) (by decide +kernel)
      omega)
  intro d
  induction d with
  | zero =>
    intro r hr H hZ hM hT hP hU hd
    omega
  | succ d ih =>
    intro r hr H hZ hM hT hP hU hd
    obtain ⟨m1, m2, m3, m4, m5, m6⟩ := hM
    have hw : 1 ≤ r 128 ∧ r 128 ≤ 16 := xbd_s H (e := .var 128) (lo := 1) (hi := 16) (by decide +kernel)
    have hu : 0 ≤ r 1048960 ∧ r 1048960 ≤ 15 := xbd_s H (e := .var 1048960) (lo := 0) (hi := 15) (by decide +kernel)
    have hf : 0 ≤ r 1048704 ∧ r 1048704 ≤ 7 := xbd_s H (e := .var 1048704) (lo := 0) (hi := 7) (by decide +kernel)
    by_cases hup : r 1048960 = (p : Int)
    · have es : r (4194310 + 64 * (r 1048960).toNat) = S p := by
        have e0 : (r 1048960).toNat = p := by omega
        rw [e0]
        exact m4 p hp
      have j1 := m6.1 p hp
      have e : S p = -1 ∨ S p = 0 ∨ S p = 1 ∨ S p = 2 ∨ S p = 3 := by omega
      rcases e with e | e | e | e | e
      · have hv := yb48w_t (q := 3) hy e
        have hv2 := yb48a_n hv (by omega) (by decide)
        have H1 := xHc (e := .sub (.var 128) (.var 1048960)) (lo := 1) (hi := 16) H (show (1 : Int) ≤ (r 128 - r 1048960) by omega) (show (r 128 - r 1048960) ≤ (16 : Int) by omega)
        have H2 := xHc (e := .sub (.var 1048960) (.var 1049024)) (lo := 0) (hi := 0) H1 (show (0 : Int) ≤ (r 1048960 - r 1049024) by omega) (show (r 1048960 - r 1049024) ≤ (0 : Int) by omega)
        have H3 := xHc (e := .pow (.sub (.num 4194310) (.var 1048960)) 0) (lo := -1) (hi := -1) H2 (show (-1 : Int) ≤ r (4194310 + 64 * (r 1048960).toNat) by omega) (show r (4194310 + 64 * (r 1048960).toNat) ≤ (-1 : Int) by omega)
        refine yz_run hL yq48_W4t hr H3 (xcut_s fun c hc r2 G2 hR => ?_)
        have hr2 : yzr L xs r2 := fun i hi => by rw [hR.2.2.2 i hi]; exact hr i hi
        have aw : r2 128 = w := (hR.2.2.2 128 (by decide)).trans m1
        simp only [List.mem_cons, List.not_mem_nil, or_false] at hc
        rcases hc with rfl | rfl
        · have a1048577 : r2 1048577 = r 1048577 := yas hR List.mem_cons_self
          have a1048640 : r2 1048640 = r 1048640 := yas hR (List.mem_cons_of_mem _ List.mem_cons_self)
          have a1048704 : r2 1048704 = r 1048704 := yas hR (List.mem_cons_of_mem _ (List.mem_cons_of_mem _ List.mem_cons_self))
          have fS : ∀ j : Nat, j < 16 → r2 (4194310 + 64 * j) = (bif decide (r 1048960 = (j : Int)) then ((0, 4) : ycV) else (0, r (4194310 + 64 * j))).2 := fun j hj => hR.2.1 _ List.mem_cons_self (4194310, 16, 217) List.mem_cons_self rfl j hj
          have fD : ∀ j : Nat, j < 8 → r2 (4195394 + 64 * j) = r (4195394 + 64 * j) := fun j hj => hR.2.1 _ (List.mem_cons_of_mem _ List.mem_cons_self) (4195394, 8, 207) (List.mem_cons_of_mem _ List.mem_cons_self) rfl j hj
          exact hC1 r2 w x f (yb48u S p (8 - ((3 + 1 : Nat) : Int))) D hr2 G2 trivial ⟨aw, a1048577.trans m2, a1048704.trans m3, fun k hk => yb48_fu (fS k (by omega)) hup (by decide) (m4 k hk), fun s hs => (fD s (by omega)).trans (m5 s hs), yb48J_take m6 hp (by decide)⟩ (by omega) hv2
        · have a1048640 : r2 1048640 = r 1048640 := yas hR List.mem_cons_self
          have a1048704 : r2 1048704 = r 1048704 := yas hR (List.mem_cons_of_mem _ List.mem_cons_self)
          have fS : ∀ j : Nat, j < 16 → r2 (4194310 + 64 * j) = (bif decide (r 1048960 = (j : Int)) then ((0, 4) : ycV) else (0, r (4194310 + 64 * j))).2 := fun j hj => hR.2.1 _ List.mem_cons_self (4194310, 16, 217) List.mem_cons_self rfl j hj
          have fD : ∀ j : Nat, j < 8 → r2 (4195394 + 64 * j) = r (4195394 + 64 * j) := fun j hj => hR.2.1 _ (List.mem_cons_of_mem _ List.mem_cons_self) (4195394, 8, 207) (List.mem_cons_of_mem _ List.mem_cons_self) rfl j hj
          have t0 : (20000 : Int) ≤ r 1048640 ∧ r 1048640 ≤ (20000 : Int) := hR.2.2.1 _ List.mem_cons_self
          have hn : n = 0 := by omega
          subst hn
          exact hE3 (yb48_0 hv2) r2 hr2 G2 trivial
      · have hv := yb48w_s hy (by omega)
        have ed : r 4195394 = 0 := (m5 0 (by decide)).trans (by
          have z := m6.2.2.1 p hp (by omega)
          rw [e] at z
          exact z)
        have H1 := xHc (e := .sub (.var 128) (.var 1048960)) (lo := 1) (hi := 16) H (show (1 : Int) ≤ (r 128 - r 1048960) by omega) (show (r 128 - r 1048960) ≤ (16 : Int) by omega)
        have H2 := xHc (e := .sub (.var 1048960) (.var 1049024)) (lo := 0) (hi := 0) H1 (show (0 : Int) ≤ (r 1048960 - r 1049024) by omega) (show (r 1048960 - r 1049024) ≤ (0 : Int) by omega)
        have H3 := xHc (e := .pow (.sub (.num 4194310) (.var 1048960)) 0) (lo := 0) (hi := 0) H2 (show (0 : Int) ≤ r (4194310 + 64 * (r 1048960).toNat) by omega) (show r (4194310 + 64 * (r 1048960).toNat) ≤ (0 : Int) by omega)
        have H4 := xHc (e := .var 4195394) (lo := 0) (hi := 0) H3 (show (0 : Int) ≤ r 4195394 by omega) (show r 4195394 ≤ (0 : Int) by omega)
        refine yz_run hL yq48_W4s0 hr H4 (xcut_s fun c hc r2 G2 hR => ?_)
        have hr2 : yzr L xs r2 := fun i hi => by rw [hR.2.2.2 i hi]; exact hr i hi
        have aw : r2 128 = w := (hR.2.2.2 128 (by decide)).trans m1
        simp only [List.mem_cons, List.not_mem_nil, or_false] at hc
        rcases hc with rfl | rfl | rfl
        · have a1048640 : r2 1048640 = r 1048640 := yas hR List.mem_cons_self
          have a1048704 : r2 1048704 = (r 1048704 + (1 : Int)) := yas hR (List.mem_cons_of_mem _ List.mem_cons_self)
          have fS : ∀ j : Nat, j < 16 → r2 (4194310 + 64 * j) = (bif decide (r 1048960 = (j : Int)) then ((0, -1) : ycV) else (0, r (4194310 + 64 * j))).2 := fun j hj => hR.2.1 _ List.mem_cons_self (4194310, 16, 217) List.mem_cons_self rfl j hj
          have fD : ∀ j : Nat, j < 8 → r2 (4195394 + 64 * j) = (xct r (.branch 0 (.branch 0 (.branch 0 (.branch 0 (.leaf (0, .add (.var 4195394) (.num 1))) (.leaf (10, .num 4195394))) (.leaf (10, .num 4195394))) (.leaf (10, .num 4195394))) (.leaf (10, .num 4195394))) j).2 := fun j hj => hR.2.1 _ (List.mem_cons_of_mem _ List.mem_cons_self) (4195394, 8, 207) (List.mem_cons_of_mem _ List.mem_cons_self) rfl j hj
          have fD2 : ∀ s : Nat, s < 8 → s ≠ (S p).toNat → r2 (4195394 + 64 * s) = D s := fun s hs hn => ((fD s (by omega)).trans (yb48_d0 r s hs (by omega))).trans (m5 s hs)
          have t0 : (7 : Int) ≤ r 1048704 ∧ r 1048704 ≤ (7 : Int) := hR.2.2.1 _ List.mem_cons_self
          exact hE0 (yb48a_e hv (by omega)) r2 hr2 G2 trivial
        · have a1048577 : r2 1048577 = r 1048577 := yas hR List.mem_cons_self
          have a1048640 : r2 1048640 = r 1048640 := yas hR (List.mem_cons_of_mem _ List.mem_cons_self)
          have a1048704 : r2 1048704 = (r 1048704 + (1 : Int)) := yas hR (List.mem_cons_of_mem _ (List.mem_cons_of_mem _ List.mem_cons_self))
          have fS : ∀ j : Nat, j < 16 → r2 (4194310 + 64 * j) = (bif decide (r 1048960 = (j : Int)) then ((0, -1) : ycV) else (0, r (4194310 + 64 * j))).2 := fun j hj => hR.2.1 _ List.mem_cons_self (4194310, 16, 217) List.mem_cons_self rfl j hj
          have fD : ∀ j : Nat, j < 8 → r2 (4195394 + 64 * j) = (xct r (.branch 0 (.branch 0 (.branch 0 (.branch 0 (.leaf (0, .add (.var 4195394) (.num 1))) (.leaf (10, .num 4195394))) (.leaf (10, .num 4195394))) (.leaf (10, .num 4195394))) (.leaf (10, .num 4195394))) j).2 := fun j hj => hR.2.1 _ (List.mem_cons_of_mem _ List.mem_cons_self) (4195394, 8, 207) (List.mem_cons_of_mem _ List.mem_cons_self) rfl j hj
          have fD2 : ∀ s : Nat, s < 8 → s ≠ (S p).toNat → r2 (4195394 + 64 * s) = D s := fun s hs hn => ((fD s (by omega)).trans (yb48_d0 r s hs (by omega))).trans (m5 s hs)
          have t1 : (0 : Int) ≤ r 1048704 ∧ r 1048704 ≤ (6 : Int) := hR.2.2.1 _ (List.mem_cons_of_mem _ List.mem_cons_self)
          have hv2 := yb48a_n hv (by omega) (by decide)
          exact hC r2 w x (f + 1) (yb48u S p (-1)) (fun s => r2 (4195394 + 64 * s)) hr2 G2 trivial ⟨aw, a1048577.trans m2, by omega, fun k hk => yb48_fu (fS k (by omega)) hup rfl (m4 k hk), fun _ _ => rfl, yb48J_step m6 hp (by omega) fD2 (by decide)⟩ (by omega) hv2
        · have a1048640 : r2 1048640 = r 1048640 := yas hR List.mem_cons_self
          have a1048704 : r2 1048704 = (r 1048704 + (1 : Int)) := yas hR (List.mem_cons_of_mem _ List.mem_cons_self)
          have fS : ∀ j : Nat, j < 16 → r2 (4194310 + 64 * j) = (bif decide (r 1048960 = (j : Int)) then ((0, -1) : ycV) else (0, r (4194310 + 64 * j))).2 := fun j hj => hR.2.1 _ List.mem_cons_self (4194310, 16, 217) List.mem_cons_self rfl j hj
          have fD : ∀ j : Nat, j < 8 → r2 (4195394 + 64 * j) = (xct r (.branch 0 (.branch 0 (.branch 0 (.branch 0 (.leaf (0, .add (.var 4195394) (.num 1))) (.leaf (10, .num 4195394))) (.leaf (10, .num 4195394))) (.leaf (10, .num 4195394))) (.leaf (10, .num 4195394))) j).2 := fun j hj => hR.2.1 _ (List.mem_cons_of_mem _ List.mem_cons_self) (4195394, 8, 207) (List.mem_cons_of_mem _ List.mem_cons_self) rfl j hj
          have fD2 : ∀ s : Nat, s < 8 → s ≠ (S p).toNat → r2 (4195394 + 64 * s) = D s := fun s hs hn => ((fD s (by omega)).trans (yb48_d0 r s hs (by omega))).trans (m5 s hs)
          have t1 : (0 : Int) ≤ r 1048704 ∧ r 1048704 ≤ (6 : Int) := hR.2.2.1 _ (List.mem_cons_of_mem _ List.mem_cons_self)
          have hv2 := yb48a_n hv (by omega) (by decide)
          have t0 : (20000 : Int) ≤ r 1048640 ∧ r 1048640 ≤ (20000 : Int) := hR.2.2.1 _ List.mem_cons_self
          have hn : n = 0 := by omega
          subst hn
          exact hE3 (yb48_0 hv2) r2 hr2 G2 trivial
      · have hv := yb48w_s hy (by omega)
        have ed : r 4195458 = 0 := (m5 1 (by decide)).trans (by
          have z := m6.2.2.1 p hp (by omega)
          rw [e] at z
          exact z)
        have H1 := xHc (e := .sub (.var 128) (.var 1048960)) (lo := 1) (hi := 16) H (show (1 : Int) ≤ (r 128 - r 1048960) by omega) (show (r 128 - r 1048960) ≤ (16 : Int) by omega)
        have H2 := xHc (e := .sub (.var 1048960) (.var 1049024)) (lo := 0) (hi := 0) H1 (show (0 : Int) ≤ (r 1048960 - r 1049024) by omega) (show (r 1048960 - r 1049024) ≤ (0 : Int) by omega)
        have H3 := xHc (e := .pow (.sub (.num 4194310) (.var 1048960)) 0) (lo := 1) (hi := 1) H2 (show (1 : Int) ≤ r (4194310 + 64 * (r 1048960).toNat) by omega) (show r (4194310 + 64 * (r 1048960).toNat) ≤ (1 : Int) by omega)
        have H4 := xHc (e := .var 4195458) (lo := 0) (hi := 0) H3 (show (0 : Int) ≤ r 4195458 by omega) (show r 4195458 ≤ (0 : Int) by omega)
        refine yz_run hL yq48_W4s1 hr H4 (xcut_s fun c hc r2 G2 hR => ?_)
        have hr2 : yzr L xs r2 := fun i hi => by rw [hR.2.2.2 i hi]; exact hr i hi
        have aw : r2 128 = w := (hR.2.2.2 128 (by decide)).trans m1
        simp only [List.mem_cons, List.not_mem_nil, or_false] at hc
        rcases hc with rfl | rfl | rfl
        · have a1048640 : r2 1048640 = r 1048640 := yas hR List.mem_cons_self
          have a1048704 : r2 1048704 = (r 1048704 + (1 : Int)) := yas hR (List.mem_cons_of_mem _ List.mem_cons_self)
          have fS : ∀ j : Nat, j < 16 → r2 (4194310 + 64 * j) = (bif decide (r 1048960 = (j : Int)) then ((0, -1) : ycV) else (0, r (4194310 + 64 * j))).2 := fun j hj => hR.2.1 _ List.mem_cons_self (4194310, 16, 217) List.mem_cons_self rfl j hj
          have fD : ∀ j : Nat, j < 8 → r2 (4195394 + 64 * j) = (xct r (.branch 0 (.leaf (10, .num 4195394)) (.branch 0 (.branch 0 (.branch 0 (.leaf (0, .add (.var 4195458) (.num 1))) (.leaf (10, .num 4195394))) (.leaf (10, .num 4195394))) (.leaf (10, .num 4195394)))) j).2 := fun j hj => hR.2.1 _ (List.mem_cons_of_mem _ List.mem_cons_self) (4195394, 8, 207) (List.mem_cons_of_mem _ List.mem_cons_self) rfl j hj
          have fD2 : ∀ s : Nat, s < 8 → s ≠ (S p).toNat → r2 (4195394 + 64 * s) = D s := fun s hs hn => ((fD s (by omega)).trans (yb48_d1 r s hs (by omega))).trans (m5 s hs)
          have t0 : (7 : Int) ≤ r 1048704 ∧ r 1048704 ≤ (7 : Int) := hR.2.2.1 _ List.mem_cons_self
          exact hE0 (yb48a_e hv (by omega)) r2 hr2 G2 trivial
        · have a1048577 : r2 1048577 = r 1048577 := yas hR List.mem_cons_self
          have a1048640 : r2 1048640 = r 1048640 := yas hR (List.mem_cons_of_mem _ List.mem_cons_self)
          have a1048704 : r2 1048704 = (r 1048704 + (1 : Int)) := yas hR (List.mem_cons_of_mem _ (List.mem_cons_of_mem _ List.mem_cons_self))
          have fS : ∀ j : Nat, j < 16 → r2 (4194310 + 64 * j) = (bif decide (r 1048960 = (j : Int)) then ((0, -1) : ycV) else (0, r (4194310 + 64 * j))).2 := fun j hj => hR.2.1 _ List.mem_cons_self (4194310, 16, 217) List.mem_cons_self rfl j hj
          have fD : ∀ j : Nat, j < 8 → r2 (4195394 + 64 * j) = (xct r (.branch 0 (.leaf (10, .num 4195394)) (.branch 0 (.branch 0 (.branch 0 (.leaf (0, .add (.var 4195458) (.num 1))) (.leaf (10, .num 4195394))) (.leaf (10, .num 4195394))) (.leaf (10, .num 4195394)))) j).2 := fun j hj => hR.2.1 _ (List.mem_cons_of_mem _ List.mem_cons_self) (4195394, 8, 207) (List.mem_cons_of_mem _ List.mem_cons_self) rfl j hj
          have fD2 : ∀ s : Nat, s < 8 → s ≠ (S p).toNat → r2 (4195394 + 64 * s) = D s := fun s hs hn => ((fD s (by omega)).trans (yb48_d1 r s hs (by omega))).trans (m5 s hs)
          have t1 : (0 : Int) ≤ r 1048704 ∧ r 1048704 ≤ (6 : Int) := hR.2.2.1 _ (List.mem_cons_of_mem _ List.mem_cons_self)
          have hv2 := yb48a_n hv (by omega) (by decide)
          exact hC r2 w x (f + 1) (yb48u S p (-1)) (fun s => r2 (4195394 + 64 * s)) hr2 G2 trivial ⟨aw, a1048577.trans m2, by omega, fun k hk => yb48_fu (fS k (by omega)) hup rfl (m4 k hk), fun _ _ => rfl, yb48J_step m6 hp (by omega) fD2 (by decide)⟩ (by omega) hv2
        · have a1048640 : r2 1048640 = r 1048640 := yas hR List.mem_cons_self
          have a1048704 : r2 1048704 = (r 1048704 + (1 : Int)) := yas hR (List.mem_cons_of_mem _ List.mem_cons_self)
          have fS : ∀ j : Nat, j < 16 → r2 (4194310 + 64 * j) = (bif decide (r 1048960 = (j : Int)) then ((0, -1) : ycV) else (0, r (4194310 + 64 * j))).2 := fun j hj => hR.2.1 _ List.mem_cons_self (4194310, 16, 217) List.mem_cons_self rfl j hj
          have fD : ∀ j : Nat, j < 8 → r2 (4195394 + 64 * j) = (xct r (.branch 0 (.leaf (10, .num 4195394)) (.branch 0 (.branch 0 (.branch 0 (.leaf (0, .add (.var 4195458) (.num 1))) (.leaf (10, .num 4195394))) (.leaf (10, .num 4195394))) (.leaf (10, .num 4195394)))) j).2 := fun j hj => hR.2.1 _ (List.mem_cons_of_mem _ List.mem_cons_self) (4195394, 8, 207) (List.mem_cons_of_mem _ List.mem_cons_self) rfl j hj
          have fD2 : ∀ s : Nat, s < 8 → s ≠ (S p).toNat → r2 (4195394 + 64 * s) = D s := fun s hs hn => ((fD s (by omega)).trans (yb48_d1 r s hs (by omega))).trans (m5 s hs)
          have t1 : (0 : Int) ≤ r 1048704 ∧ r 1048704 ≤ (6 : Int) := hR.2.2.1 _ (List.mem_cons_of_mem _ List.mem_cons_self)
          have hv2 := yb48a_n hv (by omega) (by decide)
          have t0 : (20000 : Int) ≤ r 1048640 ∧ r 1048640 ≤ (20000 : Int) := hR.2.2.1 _ List.mem_cons_self
          have hn : n = 0 := by omega
          subst hn
          exact hE3 (yb48_0 hv2) r2 hr2 G2 trivial
      · have hv := yb48w_s hy (by omega)
        have ed : r 4195522 = 0 := (m5 2 (by decide)).trans (by
          have z := m6.2.2.1 p hp (by omega)
          rw [e] at z
          exact z)
        have H1 := xHc (e := .sub (.var 128) (.var 1048960)) (lo := 1) (hi := 16) H (show (1 : Int) ≤ (r 128 - r 1048960) by omega) (show (r 128 - r 1048960) ≤ (16 : Int) by omega)
        have H2 := xHc (e := .sub (.var 1048960) (.var 1049024)) (lo := 0) (hi := 0) H1 (show (0 : Int) ≤ (r 1048960 - r 1049024) by omega) (show (r 1048960 - r 1049024) ≤ (0 : Int) by omega)
        have H3 := xHc (e := .pow (.sub (.num 4194310) (.var 1048960)) 0) (lo := 2) (hi := 2) H2 (show (2 : Int) ≤ r (4194310 + 64 * (r 1048960).toNat) by omega) (show r (4194310 + 64 * (r 1048960).toNat) ≤ (2 : Int) by omega)
        have H4 := xHc (e := .var 4195522) (lo := 0) (hi := 0) H3 (show (0 : Int) ≤ r 4195522 by omega) (show r 4195522 ≤ (0 : Int) by omega)
        refine yz_run hL yq48_W4s2 hr H4 (xcut_s fun c hc r2 G2 hR => ?_)
        have hr2 : yzr L xs r2 := fun i hi => by rw [hR.2.2.2 i hi]; exact hr i hi
        have aw : r2 128 = w := (hR.2.2.2 128 (by decide)).trans m1
        simp only [List.mem_cons, List.not_mem_nil, or_false] at hc
        rcases hc with rfl | rfl | rfl
        · have a1048640 : r2 1048640 = r 1048640 := yas hR List.mem_cons_self
          have a1048704 : r2 1048704 = (r 1048704 + (1 : Int)) := yas hR (List.mem_cons_of_mem _ List.mem_cons_self)
          have fS : ∀ j : Nat, j < 16 → r2 (4194310 + 64 * j) = (bif decide (r 1048960 = (j : Int)) then ((0, -1) : ycV) else (0, r (4194310 + 64 * j))).2 := fun j hj => hR.2.1 _ List.mem_cons_self (4194310, 16, 217) List.mem_cons_self rfl j hj
          have fD : ∀ j : Nat, j < 8 → r2 (4195394 + 64 * j) = (xct r (.branch 0 (.branch 0 (.leaf (10, .num 4195394)) (.branch 0 (.branch 0 (.leaf (0, .add (.var 4195522) (.num 1))) (.leaf (10, .num 4195394))) (.leaf (10, .num 4195394)))) (.leaf (10, .num 4195394))) j).2 := fun j hj => hR.2.1 _ (List.mem_cons_of_mem _ List.mem_cons_self) (4195394, 8, 207) (List.mem_cons_of_mem _ List.mem_cons_self) rfl j hj
          have fD2 : ∀ s : Nat, s < 8 → s ≠ (S p).toNat → r2 (4195394 + 64 * s) = D s := fun s hs hn => ((fD s (by omega)).trans (yb48_d2 r s hs (by omega))).trans (m5 s hs)
          have t0 : (7 : Int) ≤ r 1048704 ∧ r 1048704 ≤ (7 : Int) := hR.2.2.1 _ List.mem_cons_self
          exact hE0 (yb48a_e hv (by omega)) r2 hr2 G2 trivial
        · have a1048577 : r2 1048577 = r 1048577 := yas hR List.mem_cons_self
          have a1048640 : r2 1048640 = r 1048640 := yas hR (List.mem_cons_of_mem _ List.mem_cons_self)
          have a1048704 : r2 1048704 = (r 1048704 + (1 : Int)) := yas hR (List.mem_cons_of_mem _ (List.mem_cons_of_mem _ List.mem_cons_self))
          have fS : ∀ j : Nat, j < 16 → r2 (4194310 + 64 * j) = (bif decide (r 1048960 = (j : Int)) then ((0, -1) : ycV) else (0, r (4194310 + 64 * j))).2 := fun j hj => hR.2.1 _ List.mem_cons_self (4194310, 16, 217) List.mem_cons_self rfl j hj
          have fD : ∀ j : Nat, j < 8 → r2 (4195394 + 64 * j) = (xct r (.branch 0 (.branch 0 (.leaf (10, .num 4195394)) (.branch 0 (.branch 0 (.leaf (0, .add (.var 4195522) (.num 1))) (.leaf (10, .num 4195394))) (.leaf (10, .num 4195394)))) (.leaf (10, .num 4195394))) j).2 := fun j hj => hR.2.1 _ (List.mem_cons_of_mem _ List.mem_cons_self) (4195394, 8, 207) (List.mem_cons_of_mem _ List.mem_cons_self) rfl j hj
          have fD2 : ∀ s : Nat, s < 8 → s ≠ (S p).toNat → r2 (4195394 + 64 * s) = D s := fun s hs hn => ((fD s (by omega)).trans (yb48_d2 r s hs (by omega))).trans (m5 s hs)
          have t1 : (0 : Int) ≤ r 1048704 ∧ r 1048704 ≤ (6 : Int) := hR.2.2.1 _ (List.mem_cons_of_mem _ List.mem_cons_self)
          have hv2 := yb48a_n hv (by omega) (by decide)
          exact hC r2 w x (f + 1) (yb48u S p (-1)) (fun s => r2 (4195394 + 64 * s)) hr2 G2 trivial ⟨aw, a1048577.trans m2, by omega, fun k hk => yb48_fu (fS k (by omega)) hup rfl (m4 k hk), fun _ _ => rfl, yb48J_step m6 hp (by omega) fD2 (by decide)⟩ (by omega) hv2
        · have a1048640 : r2 1048640 = r 1048640 := yas hR List.mem_cons_self
          have a1048704 : r2 1048704 = (r 1048704 + (1 : Int)) := yas hR (List.mem_cons_of_mem _ List.mem_cons_self)
          have fS : ∀ j : Nat, j < 16 → r2 (4194310 + 64 * j) = (bif decide (r 1048960 = (j : Int)) then ((0, -1) : ycV) else (0, r (4194310 + 64 * j))).2 := fun j hj => hR.2.1 _ List.mem_cons_self (4194310, 16, 217) List.mem_cons_self rfl j hj
          have fD : ∀ j : Nat, j < 8 → r2 (4195394 + 64 * j) = (xct r (.branch 0 (.branch 0 (.leaf (10, .num 4195394)) (.branch 0 (.branch 0 (.leaf (0, .add (.var 4195522) (.num 1))) (.leaf (10, .num 4195394))) (.leaf (10, .num 4195394)))) (.leaf (10, .num 4195394))) j).2 := fun j hj => hR.2.1 _ (List.mem_cons_of_mem _ List.mem_cons_self) (4195394, 8, 207) (List.mem_cons_of_mem _ List.mem_cons_self) rfl j hj
          have fD2 : ∀ s : Nat, s < 8 → s ≠ (S p).toNat → r2 (4195394 + 64 * s) = D s := fun s hs hn => ((fD s (by omega)).trans (yb48_d2 r s hs (by omega))).trans (m5 s hs)
          have t1 : (0 : Int) ≤ r 1048704 ∧ r 1048704 ≤ (6 : Int) := hR.2.2.1 _ (List.mem_cons_of_mem _ List.mem_cons_self)
          have hv2 := yb48a_n hv (by omega) (by decide)
          have t0 : (20000 : Int) ≤ r 1048640 ∧ r 1048640 ≤ (20000 : Int) := hR.2.2.1 _ List.mem_cons_self
          have hn : n = 0 := by omega
          subst hn
          exact hE3 (yb48_0 hv2) r2 hr2 G2 trivial
      · have hv := yb48w_s hy (by omega)
        have ed : r 4195586 = 0 := (m5 3 (by decide)).trans (by
          have z := m6.2.2.1 p hp (by omega)
          rw [e] at z
          exact z)
        have H1 := xHc (e := .sub (.var 128) (.var 1048960)) (lo := 1) (hi := 16) H (show (1 : Int) ≤ (r 128 - r 1048960) by omega) (show (r 128 - r 1048960) ≤ (16 : Int) by omega)
        have H2 := xHc (e := .sub (.var 1048960) (.var 1049024)) (lo := 0) (hi := 0) H1 (show (0 : Int) ≤ (r 1048960 - r 1049024) by omega) (show (r 1048960 - r 1049024) ≤ (0 : Int) by omega)
        have H3 := xHc (e := .pow (.sub (.num 4194310) (.var 1048960)) 0) (lo := 3) (hi := 3) H2 (show (3 : Int) ≤ r (4194310 + 64 * (r 1048960).toNat) by omega) (show r (4194310 + 64 * (r 1048960).toNat) ≤ (3 : Int) by omega)
        have H4 := xHc (e := .var 4195586) (lo := 0) (hi := 0) H3 (show (0 : Int) ≤ r 4195586 by omega) (show r 4195586 ≤ (0 : Int) by omega)
        refine yz_run hL yq48_W4s3 hr H4 (xcut_s fun c hc r2 G2 hR => ?_)
        have hr2 : yzr L xs r2 := fun i hi => by rw [hR.2.2.2 i hi]; exact hr i hi
        have aw : r2 128 = w := (hR.2.2.2 128 (by decide)).trans m1
        simp only [List.mem_cons, List.not_mem_nil, or_false] at hc
        rcases hc with rfl | rfl | rfl
        · have a1048640 : r2 1048640 = r 1048640 := yas hR List.mem_cons_self
          have a1048704 : r2 1048704 = (r 1048704 + (1 : Int)) := yas hR (List.mem_cons_of_mem _ List.mem_cons_self)
          have fS : ∀ j : Nat, j < 16 → r2 (4194310 + 64 * j) = (bif decide (r 1048960 = (j : Int)) then ((0, -1) : ycV) else (0, r (4194310 + 64 * j))).2 := fun j hj => hR.2.1 _ List.mem_cons_self (4194310, 16, 217) List.mem_cons_self rfl j hj
          have fD : ∀ j : Nat, j < 8 → r2 (4195394 + 64 * j) = (xct r (.branch 0 (.leaf (10, .num 4195394)) (.branch 0 (.leaf (10, .num 4195394)) (.branch 0 (.branch 0 (.leaf (0, .add (.var 4195586) (.num 1))) (.leaf (10, .num 4195394))) (.leaf (10, .num 4195394))))) j).2 := fun j hj => hR.2.1 _ (List.mem_cons_of_mem _ List.mem_cons_self) (4195394, 8, 207) (List.mem_cons_of_mem _ List.mem_cons_self) rfl j hj
          have fD2 : ∀ s : Nat, s < 8 → s ≠ (S p).toNat → r2 (4195394 + 64 * s) = D s := fun s hs hn => ((fD s (by omega)).trans (yb48_d3 r s hs (by omega))).trans (m5 s hs)
          have t0 : (7 : Int) ≤ r 1048704 ∧ r 1048704 ≤ (7 : Int) := hR.2.2.1 _ List.mem_cons_self
          exact hE0 (yb48a_e hv (by omega)) r2 hr2 G2 trivial
        · have a1048577 : r2 1048577 = r 1048577 := yas hR List.mem_cons_self
          have a1048640 : r2 1048640 = r 1048640 := yas hR (List.mem_cons_of_mem _ List.mem_cons_self)
          have a1048704 : r2 1048704 = (r 1048704 + (1 : Int)) := yas hR (List.mem_cons_of_mem _ (List.mem_cons_of_mem _ List.mem_cons_self))
          have fS : ∀ j : Nat, j < 16 → r2 (4194310 + 64 * j) = (bif decide (r 1048960 = (j : Int)) then ((0, -1) : ycV) else (0, r (4194310 + 64 * j))).2 := fun j hj => hR.2.1 _ List.mem_cons_self (4194310, 16, 217) List.mem_cons_self rfl j hj
          have fD : ∀ j : Nat, j < 8 → r2 (4195394 + 64 * j) = (xct r (.branch 0 (.leaf (10, .num 4195394)) (.branch 0 (.leaf (10, .num 4195394)) (.branch 0 (.branch 0 (.leaf (0, .add (.var 4195586) (.num 1))) (.leaf (10, .num 4195394))) (.leaf (10, .num 4195394))))) j).2 := fun j hj => hR.2.1 _ (List.mem_cons_of_mem _ List.mem_cons_self) (4195394, 8, 207) (List.mem_cons_of_mem _ List.mem_cons_self) rfl j hj
          have fD2 : ∀ s : Nat, s < 8 → s ≠ (S p).toNat → r2 (4195394 + 64 * s) = D s := fun s hs hn => ((fD s (by omega)).trans (yb48_d3 r s hs (by omega))).trans (m5 s hs)
          have t1 : (0 : Int) ≤ r 1048704 ∧ r 1048704 ≤ (6 : Int) := hR.2.2.1 _ (List.mem_cons_of_mem _ List.mem_cons_self)
          have hv2 := yb48a_n hv (by omega) (by decide)
          exact hC r2 w x (f + 1) (yb48u S p (-1)) (fun s => r2 (4195394 + 64 * s)) hr2 G2 trivial ⟨aw, a1048577.trans m2, by omega, fun k hk => yb48_fu (fS k (by omega)) hup rfl (m4 k hk), fun _ _ => rfl, yb48J_step m6 hp (by omega) fD2 (by decide)⟩ (by omega) hv2
        · have a1048640 : r2 1048640 = r 1048640 := yas hR List.mem_cons_self
          have a1048704 : r2 1048704 = (r 1048704 + (1 : Int)) := yas hR (List.mem_cons_of_mem _ List.mem_cons_self)
          have fS : ∀ j : Nat, j < 16 → r2 (4194310 + 64 * j) = (bif decide (r 1048960 = (j : Int)) then ((0, -1) : ycV) else (0, r (4194310 + 64 * j))).2 := fun j hj => hR.2.1 _ List.mem_cons_self (4194310, 16, 217) List.mem_cons_self rfl j hj
          have fD : ∀ j : Nat, j < 8 → r2 (4195394 + 64 * j) = (xct r (.branch 0 (.leaf (10, .num 4195394)) (.branch 0 (.leaf (10, .num 4195394)) (.branch 0 (.branch 0 (.leaf (0, .add (.var 4195586) (.num 1))) (.leaf (10, .num 4195394))) (.leaf (10, .num 4195394))))) j).2 := fun j hj => hR.2.1 _ (List.mem_cons_of_mem _ List.mem_cons_self) (4195394, 8, 207) (List.mem_cons_of_mem _ List.mem_cons_self) rfl j hj
          have fD2 : ∀ s : Nat, s < 8 → s ≠ (S p).toNat → r2 (4195394 + 64 * s) = D s := fun s hs hn => ((fD s (by omega)).trans (yb48_d3 r s hs (by omega))).trans (m5 s hs)
          have t1 : (0 : Int) ≤ r 1048704 ∧ r 1048704 ≤ (6 : Int) := hR.2.2.1 _ (List.mem_cons_of_mem _ List.mem_cons_self)
          have hv2 := yb48a_n hv (by omega) (by decide)
          have t0 : (20000 : Int) ≤ r 1048640 ∧ r 1048640 ≤ (20000 : Int) := hR.2.2.1 _ List.mem_cons_self
          have hn : n = 0 := by omega
          subst hn
          exact hE3 (yb48_0 hv2) r2 hr2 G2 trivial
    · have H1 := xHc (e := .sub (.var 128) (.var 1048960)) (lo := 1) (hi := 16) H (show (1 : Int) ≤ (r 128 - r 1048960) by omega) (show (r 128 - r 1048960) ≤ (16 : Int) by omega)
      have H2 := xHc (e := .sub (.var 1048960) (.var 1049024)) (lo := -15) (hi := -1) H1 (show (-15 : Int) ≤ (r 1048960 - r 1049024) by omega) (show (r 1048960 - r 1049024) ≤ (-1 : Int) by omega)
      refine yz_run hL yq48_W4n hr H2 (xcut_s fun c hc r2 G2 hR => ?_)
      have hr2 : yzr L xs r2 := fun i hi => by rw [hR.2.2.2 i hi]; exact hr i hi
      have aw : r2 128 = w := (hR.2.2.2 128 (by decide)).trans m1
      rw [List.mem_singleton] at hc
      subst hc
      have a1048577 : r2 1048577 = r 1048577 := yas hR List.mem_cons_self
      have a1049024 : r2 1049024 = r 1049024 := yas hR (List.mem_cons_of_mem _ List.mem_cons_self)
      have a1048960 : r2 1048960 = (r 1048960 + (1 : Int)) := yas hR (List.mem_cons_of_mem _ (List.mem_cons_of_mem _ List.mem_cons_self))
      have a1048640 : r2 1048640 = r 1048640 := yas hR (List.mem_cons_of_mem _ (List.mem_cons_of_mem _ (List.mem_cons_of_mem _ List.mem_cons_self)))
      have a1048704 : r2 1048704 = r 1048704 := yas hR (List.mem_cons_of_mem _ (List.mem_cons_of_mem _ (List.mem_cons_of_mem _ (List.mem_cons_of_mem _ List.mem_cons_self))))
      have fS : ∀ j : Nat, j < 16 → r2 (4194310 + 64 * j) = r (4194310 + 64 * j) := fun j hj => hR.2.1 _ List.mem_cons_self (4194310, 16, 217) List.mem_cons_self rfl j hj
      have fD : ∀ j : Nat, j < 8 → r2 (4195394 + 64 * j) = r (4195394 + 64 * j) := fun j hj => hR.2.1 _ (List.mem_cons_of_mem _ List.mem_cons_self) (4195394, 8, 207) (List.mem_cons_of_mem _ List.mem_cons_self) rfl j hj
      exact ih r2 hr2 G2 trivial ⟨aw, a1048577.trans m2, a1048704.trans m3, fun k hk => (fS k (by omega)).trans (m4 k hk), fun s hs => (fD s (by omega)).trans (m5 s hs), m6⟩ (by omega) (by omega) (by omega) (by omega)
theorem y48_C5 {L : Nat} {xs : Nat → Int32} (hL : L ≤ 3584) {y0 : Int} {n : Nat} (hW : yb48W L xs yZ0 y0 yt48_W5 yF48_W5 n 5) : yb48C L xs yZ0 y0 yt48_C5 yF48_C5 (n + 1) 5 := by
  intro r w x f S D hr H hZ hM hT hy
  obtain ⟨m1, m2, m3, m4, m5, m6⟩ := hM
  have hw : 1 ≤ r 128 ∧ r 128 ≤ 16 := xbd_s H (e := .var 128) (lo := 1) (hi := 16) (by decide +kernel)
  have hw2 : 1 ≤ w ∧ w ≤ 16 := by omega
  have H1 := xHc (e := .sub (.var 128) (.pow (.add (.pow (.add (.pow (.add (.pow (.add (.var 1048577) (.num 6364136223846793005)) 38) (.num 1442695040888963407)) 36) (.num 33)) 51) (.var 128)) 40)) (lo := 1) (hi := 16) H (by rw [xden_sub, xden_var, yb48P_d, m1, m2]; exact (yb48_w1 (yb48P_r hw2.1 hw2.2) hw2.2).1) (by rw [xden_sub, xden_var, yb48P_d, m1, m2]; exact (yb48_w1 (yb48P_r hw2.1 hw2.2) hw2.2).2)
  refine yz_run hL yq48_C5 hr H1 (xcut_s fun c hc r2 G2 hR => ?_)
  have hr2 : yzr L xs r2 := fun i hi => by rw [hR.2.2.2 i hi]; exact hr i hi
  have aw : r2 128 = w := (hR.2.2.2 128 (by decide)).trans m1
  rw [List.mem_singleton] at hc
  subst hc
  have a1048960 : r2 1048960 = (0 : Int) := yas hR (List.mem_cons_of_mem _ (List.mem_cons_of_mem _ List.mem_cons_self))
  have a1048640 : r2 1048640 = (r 1048640 + (1 : Int)) := yas hR (List.mem_cons_of_mem _ (List.mem_cons_of_mem _ (List.mem_cons_of_mem _ List.mem_cons_self)))
  have a1048704 : r2 1048704 = r 1048704 := yas hR (List.mem_cons_of_mem _ (List.mem_cons_of_mem _ (List.mem_cons_of_mem _ (List.mem_cons_of_mem _ List.mem_cons_self))))
  have fS : ∀ j : Nat, j < 16 → r2 (4194310 + 64 * j) = r (4194310 + 64 * j) := fun j hj => hR.2.1 _ List.mem_cons_self (4194310, 16, 217) List.mem_cons_self rfl j hj
  have fD : ∀ j : Nat, j < 8 → r2 (4195394 + 64 * j) = r (4195394 + 64 * j) := fun j hj => hR.2.1 _ (List.mem_cons_of_mem _ List.mem_cons_self) (4195394, 8, 207) (List.mem_cons_of_mem _ List.mem_cons_self) rfl j hj
  have o1 := hT
  have gS : ∀ k : Nat, (k : Int) < w → r2 (4194310 + 64 * k) = S k := fun k hk => (fS k (by omega)).trans (m4 k hk)
  have gD : ∀ s : Nat, s < 8 → r2 (4195394 + 64 * s) = D s := fun s hs => (fD s (by omega)).trans (m5 s hs)
  have gT : r2 1048640 + (n : Int) = 20000 := by omega
  have a1048577 : r2 1048577 = yb48X (r 1048577) := (yas hR List.mem_cons_self).trans (yb48X_d r)
  have a1049024 : r2 1049024 = yb48P (r 128) (r 1048577) := (yas hR (List.mem_cons_of_mem _ List.mem_cons_self)).trans (yb48P_d r)
  exact hW r2 w (yb48X x) f S D (yb48P w x).toNat hr2 G2 trivial ⟨aw, by rw [a1048577, m2], a1048704.trans m3, gS, gD, m6⟩ gT (yb48_w2 (yb48P_r hw2.1 hw2.2)) (by rw [a1049024, m1, m2]; exact yb48_w3 (yb48P_r hw2.1 hw2.2)) (by rw [a1048960]; exact yb48_w5 _) (yb48_t hy)
theorem y48_W5 {L : Nat} {xs : Nat → Int32} (hL : L ≤ 3584) {y0 : Int} {n : Nat} (hC : yb48C L xs yZ0 y0 yt48_C5 yF48_C5 n 5) (hC1 : yb48C L xs yZ0 y0 yt48_C4 yF48_C4 n 4) (hE0 : yb48E L xs yZ0 y0 (0) yt48_E0 yF48_E0) (hE3 : yb48E L xs yZ0 y0 (-3) yt48_E3 yF48_E3) : yb48W L xs yZ0 y0 yt48_W5 yF48_W5 n 5 := by
  intro r w x f S D p hr H hZ hM hT hp hP hU hy
  suffices main : ∀ d : Nat, ∀ r, yzr L xs r → xH r yF48_W5 → yZ0 r → yb48M r w 5 x f S D → r 1048640 + (n : Int) = 20000 → r 1049024 = (p : Int) → r 1048960 ≤ (p : Int) → (p : Int) - r 1048960 < (d : Int) → xGl (yfT (ykold L xs)) r yzP yt48_W5 from
    main (p + 1) r hr H hZ hM hT hP hU (by
      have hu : 0 ≤ r 1048960 ∧ r 1048960 ≤ 15 := xbd_s H (e := .var 1048960) (lo := 0) (hi := 15) (by decide +kernel)
      omega)
  intro d
  induction d with
  | zero =>
    intro r hr H hZ hM hT hP hU hd
    omega
  | succ d ih =>
    intro r hr H hZ hM hT hP hU hd
    obtain ⟨m1, m2, m3, m4, m5, m6⟩ := hM
    have hw : 1 ≤ r 128 ∧ r 128 ≤ 16 := xbd_s H (e := .var 128) (lo := 1) (hi := 16) (by decide +kernel)
    have hu : 0 ≤ r 1048960 ∧ r 1048960 ≤ 15 := xbd_s H (e := .var 1048960) (lo := 0) (hi := 15) (by decide +kernel)
    have hf : 0 ≤ r 1048704 ∧ r 1048704 ≤ 7 := xbd_s H (e := .var 1048704) (lo := 0) (hi := 7) (by decide +kernel)
    by_cases hup : r 1048960 = (p : Int)
    · have es : r (4194310 + 64 * (r 1048960).toNat) = S p := by
        have e0 : (r 1048960).toNat = p := by omega
        rw [e0]
        exact m4 p hp
      have j1 := m6.1 p hp
      have e : S p = -1 ∨ S p = 0 ∨ S p = 1 ∨ S p = 2 := by omega
      rcases e with e | e | e | e
      · have hv := yb48w_t (q := 4) hy e
        have hv2 := yb48a_n hv (by omega) (by decide)
        have H1 := xHc (e := .sub (.var 128) (.var 1048960)) (lo := 1) (hi := 16) H (show (1 : Int) ≤ (r 128 - r 1048960) by omega) (show (r 128 - r 1048960) ≤ (16 : Int) by omega)
        have H2 := xHc (e := .sub (.var 1048960) (.var 1049024)) (lo := 0) (hi := 0) H1 (show (0 : Int) ≤ (r 1048960 - r 1049024) by omega) (show (r 1048960 - r 1049024) ≤ (0 : Int) by omega)
        have H3 := xHc (e := .pow (.sub (.num 4194310) (.var 1048960)) 0) (lo := -1) (hi := -1) H2 (show (-1 : Int) ≤ r (4194310 + 64 * (r 1048960).toNat) by omega) (show r (4194310 + 64 * (r 1048960).toNat) ≤ (-1 : Int) by omega)
        refine yz_run hL yq48_W5t hr H3 (xcut_s fun c hc r2 G2 hR => ?_)
        have hr2 : yzr L xs r2 := fun i hi => by rw [hR.2.2.2 i hi]; exact hr i hi
        have aw : r2 128 = w := (hR.2.2.2 128 (by decide)).trans m1
        simp only [List.mem_cons, List.not_mem_nil, or_false] at hc
        rcases hc with rfl | rfl
        · have a1048577 : r2 1048577 = r 1048577 := yas hR List.mem_cons_self
          have a1048640 : r2 1048640 = r 1048640 := yas hR (List.mem_cons_of_mem _ List.mem_cons_self)
          have a1048704 : r2 1048704 = r 1048704 := yas hR (List.mem_cons_of_mem _ (List.mem_cons_of_mem _ List.mem_cons_self))
          have fS : ∀ j : Nat, j < 16 → r2 (4194310 + 64 * j) = (bif decide (r 1048960 = (j : Int)) then ((0, 3) : ycV) else (0, r (4194310 + 64 * j))).2 := fun j hj => hR.2.1 _ List.mem_cons_self (4194310, 16, 217) List.mem_cons_self rfl j hj
          have fD : ∀ j : Nat, j < 8 → r2 (4195394 + 64 * j) = r (4195394 + 64 * j) := fun j hj => hR.2.1 _ (List.mem_cons_of_mem _ List.mem_cons_self) (4195394, 8, 207) (List.mem_cons_of_mem _ List.mem_cons_self) rfl j hj
          exact hC1 r2 w x f (yb48u S p (8 - ((4 + 1 : Nat) : Int))) D hr2 G2 trivial ⟨aw, a1048577.trans m2, a1048704.trans m3, fun k hk => yb48_fu (fS k (by omega)) hup (by decide) (m4 k hk), fun s hs => (fD s (by omega)).trans (m5 s hs), yb48J_take m6 hp (by decide)⟩ (by omega) hv2
        · have a1048640 : r2 1048640 = r 1048640 := yas hR List.mem_cons_self
          have a1048704 : r2 1048704 = r 1048704 := yas hR (List.mem_cons_of_mem _ List.mem_cons_self)
          have fS : ∀ j : Nat, j < 16 → r2 (4194310 + 64 * j) = (bif decide (r 1048960 = (j : Int)) then ((0, 3) : ycV) else (0, r (4194310 + 64 * j))).2 := fun j hj => hR.2.1 _ List.mem_cons_self (4194310, 16, 217) List.mem_cons_self rfl j hj
          have fD : ∀ j : Nat, j < 8 → r2 (4195394 + 64 * j) = r (4195394 + 64 * j) := fun j hj => hR.2.1 _ (List.mem_cons_of_mem _ List.mem_cons_self) (4195394, 8, 207) (List.mem_cons_of_mem _ List.mem_cons_self) rfl j hj
          have t0 : (20000 : Int) ≤ r 1048640 ∧ r 1048640 ≤ (20000 : Int) := hR.2.2.1 _ List.mem_cons_self
          have hn : n = 0 := by omega
          subst hn
          exact hE3 (yb48_0 hv2) r2 hr2 G2 trivial
      · have hv := yb48w_s hy (by omega)
        have ed : r 4195394 = 0 := (m5 0 (by decide)).trans (by
          have z := m6.2.2.1 p hp (by omega)
          rw [e] at z
          exact z)
        have H1 := xHc (e := .sub (.var 128) (.var 1048960)) (lo := 1) (hi := 16) H (show (1 : Int) ≤ (r 128 - r 1048960) by omega) (show (r 128 - r 1048960) ≤ (16 : Int) by omega)
        have H2 := xHc (e := .sub (.var 1048960) (.var 1049024)) (lo := 0) (hi := 0) H1 (show (0 : Int) ≤ (r 1048960 - r 1049024) by omega) (show (r 1048960 - r 1049024) ≤ (0 : Int) by omega)
        have H3 := xHc (e := .pow (.sub (.num 4194310) (.var 1048960)) 0) (lo := 0) (hi := 0) H2 (show (0 : Int) ≤ r (4194310 + 64 * (r 1048960).toNat) by omega) (show r (4194310 + 64 * (r 1048960).toNat) ≤ (0 : Int) by omega)
        have H4 := xHc (e := .var 4195394) (lo := 0) (hi := 0) H3 (show (0 : Int) ≤ r 4195394 by omega) (show r 4195394 ≤ (0 : Int) by omega)
        refine yz_run hL yq48_W5s0 hr H4 (xcut_s fun c hc r2 G2 hR => ?_)
        have hr2 : yzr L xs r2 := fun i hi => by rw [hR.2.2.2 i hi]; exact hr i hi
        have aw : r2 128 = w := (hR.2.2.2 128 (by decide)).trans m1
        simp only [List.mem_cons, List.not_mem_nil, or_false] at hc
        rcases hc with rfl | rfl | rfl
        · have a1048640 : r2 1048640 = r 1048640 := yas hR List.mem_cons_self
          have a1048704 : r2 1048704 = (r 1048704 + (1 : Int)) := yas hR (List.mem_cons_of_mem _ List.mem_cons_self)
          have fS : ∀ j : Nat, j < 16 → r2 (4194310 + 64 * j) = (bif decide (r 1048960 = (j : Int)) then ((0, -1) : ycV) else (0, r (4194310 + 64 * j))).2 := fun j hj => hR.2.1 _ List.mem_cons_self (4194310, 16, 217) List.mem_cons_self rfl j hj
          have fD : ∀ j : Nat, j < 8 → r2 (4195394 + 64 * j) = (xct r (.branch 0 (.branch 0 (.branch 0 (.branch 0 (.leaf (0, .add (.var 4195394) (.num 1))) (.leaf (10, .num 4195394))) (.leaf (10, .num 4195394))) (.leaf (10, .num 4195394))) (.leaf (10, .num 4195394))) j).2 := fun j hj => hR.2.1 _ (List.mem_cons_of_mem _ List.mem_cons_self) (4195394, 8, 207) (List.mem_cons_of_mem _ List.mem_cons_self) rfl j hj
          have fD2 : ∀ s : Nat, s < 8 → s ≠ (S p).toNat → r2 (4195394 + 64 * s) = D s := fun s hs hn => ((fD s (by omega)).trans (yb48_d0 r s hs (by omega))).trans (m5 s hs)
          have t0 : (7 : Int) ≤ r 1048704 ∧ r 1048704 ≤ (7 : Int) := hR.2.2.1 _ List.mem_cons_self
          exact hE0 (yb48a_e hv (by omega)) r2 hr2 G2 trivial
        · have a1048577 : r2 1048577 = r 1048577 := yas hR List.mem_cons_self
          have a1048640 : r2 1048640 = r 1048640 := yas hR (List.mem_cons_of_mem _ List.mem_cons_self)
          have a1048704 : r2 1048704 = (r 1048704 + (1 : Int)) := yas hR (List.mem_cons_of_mem _ (List.mem_cons_of_mem _ List.mem_cons_self))
          have fS : ∀ j : Nat, j < 16 → r2 (4194310 + 64 * j) = (bif decide (r 1048960 = (j : Int)) then ((0, -1) : ycV) else (0, r (4194310 + 64 * j))).2 := fun j hj => hR.2.1 _ List.mem_cons_self (4194310, 16, 217) List.mem_cons_self rfl j hj
          have fD : ∀ j : Nat, j < 8 → r2 (4195394 + 64 * j) = (xct r (.branch 0 (.branch 0 (.branch 0 (.branch 0 (.leaf (0, .add (.var 4195394) (.num 1))) (.leaf (10, .num 4195394))) (.leaf (10, .num 4195394))) (.leaf (10, .num 4195394))) (.leaf (10, .num 4195394))) j).2 := fun j hj => hR.2.1 _ (List.mem_cons_of_mem _ List.mem_cons_self) (4195394, 8, 207) (List.mem_cons_of_mem _ List.mem_cons_self) rfl j hj
          have fD2 : ∀ s : Nat, s < 8 → s ≠ (S p).toNat → r2 (4195394 + 64 * s) = D s := fun s hs hn => ((fD s (by omega)).trans (yb48_d0 r s hs (by omega))).trans (m5 s hs)
          have t1 : (0 : Int) ≤ r 1048704 ∧ r 1048704 ≤ (6 : Int) := hR.2.2.1 _ (List.mem_cons_of_mem _ List.mem_cons_self)
          have hv2 := yb48a_n hv (by omega) (by decide)
          exact hC r2 w x (f + 1) (yb48u S p (-1)) (fun s => r2 (4195394 + 64 * s)) hr2 G2 trivial ⟨aw, a1048577.trans m2, by omega, fun k hk => yb48_fu (fS k (by omega)) hup rfl (m4 k hk), fun _ _ => rfl, yb48J_step m6 hp (by omega) fD2 (by decide)⟩ (by omega) hv2
        · have a1048640 : r2 1048640 = r 1048640 := yas hR List.mem_cons_self
          have a1048704 : r2 1048704 = (r 1048704 + (1 : Int)) := yas hR (List.mem_cons_of_mem _ List.mem_cons_self)
          have fS : ∀ j : Nat, j < 16 → r2 (4194310 + 64 * j) = (bif decide (r 1048960 = (j : Int)) then ((0, -1) : ycV) else (0, r (4194310 + 64 * j))).2 := fun j hj => hR.2.1 _ List.mem_cons_self (4194310, 16, 217) List.mem_cons_self rfl j hj
          have fD : ∀ j : Nat, j < 8 → r2 (4195394 + 64 * j) = (xct r (.branch 0 (.branch 0 (.branch 0 (.branch 0 (.leaf (0, .add (.var 4195394) (.num 1))) (.leaf (10, .num 4195394))) (.leaf (10, .num 4195394))) (.leaf (10, .num 4195394))) (.leaf (10, .num 4195394))) j).2 := fun j hj => hR.2.1 _ (List.mem_cons_of_mem _ List.mem_cons_self) (4195394, 8, 207) (List.mem_cons_of_mem _ List.mem_cons_self) rfl j hj
          have fD2 : ∀ s : Nat, s < 8 → s ≠ (S p).toNat → r2 (4195394 + 64 * s) = D s := fun s hs hn => ((fD s (by omega)).trans (yb48_d0 r s hs (by omega))).trans (m5 s hs)
          have t1 : (0 : Int) ≤ r 1048704 ∧ r 1048704 ≤ (6 : Int) := hR.2.2.1 _ (List.mem_cons_of_mem _ List.mem_cons_self)
          have hv2 := yb48a_n hv (by omega) (by decide)
          have t0 : (20000 : Int) ≤ r 1048640 ∧ r 1048640 ≤ (20000 : Int) := hR.2.2.1 _ List.mem_cons_self
          have hn : n = 0 := by omega
          subst hn
          exact hE3 (yb48_0 hv2) r2 hr2 G2 trivial
      · have hv := yb48w_s hy (by omega)
        have ed : r 4195458 = 0 := (m5 1 (by decide)).trans (by
          have z := m6.2.2.1 p hp (by omega)
          rw [e] at z
          exact z)
        have H1 := xHc (e := .sub (.var 128) (.var 1048960)) (lo := 1) (hi := 16) H (show (1 : Int) ≤ (r 128 - r 1048960) by omega) (show (r 128 - r 1048960) ≤ (16 : Int) by omega)
        have H2 := xHc (e := .sub (.var 1048960) (.var 1049024)) (lo := 0) (hi := 0) H1 (show (0 : Int) ≤ (r 1048960 - r 1049024) by omega) (show (r 1048960 - r 1049024) ≤ (0 : Int) by omega)
        have H3 := xHc (e := .pow (.sub (.num 4194310) (.var 1048960)) 0) (lo := 1) (hi := 1) H2 (show (1 : Int) ≤ r (4194310 + 64 * (r 1048960).toNat) by omega) (show r (4194310 + 64 * (r 1048960).toNat) ≤ (1 : Int) by omega)
        have H4 := xHc (e := .var 4195458) (lo := 0) (hi := 0) H3 (show (0 : Int) ≤ r 4195458 by omega) (show r 4195458 ≤ (0 : Int) by omega)
        refine yz_run hL yq48_W5s1 hr H4 (xcut_s fun c hc r2 G2 hR => ?_)
        have hr2 : yzr L xs r2 := fun i hi => by rw [hR.2.2.2 i hi]; exact hr i hi
        have aw : r2 128 = w := (hR.2.2.2 128 (by decide)).trans m1
        simp only [List.mem_cons, List.not_mem_nil, or_false] at hc
        rcases hc with rfl | rfl | rfl
        · have a1048640 : r2 1048640 = r 1048640 := yas hR List.mem_cons_self
          have a1048704 : r2 1048704 = (r 1048704 + (1 : Int)) := yas hR (List.mem_cons_of_mem _ List.mem_cons_self)
          have fS : ∀ j : Nat, j < 16 → r2 (4194310 + 64 * j) = (bif decide (r 1048960 = (j : Int)) then ((0, -1) : ycV) else (0, r (4194310 + 64 * j))).2 := fun j hj => hR.2.1 _ List.mem_cons_self (4194310, 16, 217) List.mem_cons_self rfl j hj
          have fD : ∀ j : Nat, j < 8 → r2 (4195394 + 64 * j) = (xct r (.branch 0 (.leaf (10, .num 4195394)) (.branch 0 (.branch 0 (.branch 0 (.leaf (0, .add (.var 4195458) (.num 1))) (.leaf (10, .num 4195394))) (.leaf (10, .num 4195394))) (.leaf (10, .num 4195394)))) j).2 := fun j hj => hR.2.1 _ (List.mem_cons_of_mem _ List.mem_cons_self) (4195394, 8, 207) (List.mem_cons_of_mem _ List.mem_cons_self) rfl j hj
          have fD2 : ∀ s : Nat, s < 8 → s ≠ (S p).toNat → r2 (4195394 + 64 * s) = D s := fun s hs hn => ((fD s (by omega)).trans (yb48_d1 r s hs (by omega))).trans (m5 s hs)
          have t0 : (7 : Int) ≤ r 1048704 ∧ r 1048704 ≤ (7 : Int) := hR.2.2.1 _ List.mem_cons_self
          exact hE0 (yb48a_e hv (by omega)) r2 hr2 G2 trivial
        · have a1048577 : r2 1048577 = r 1048577 := yas hR List.mem_cons_self
          have a1048640 : r2 1048640 = r 1048640 := yas hR (List.mem_cons_of_mem _ List.mem_cons_self)
          have a1048704 : r2 1048704 = (r 1048704 + (1 : Int)) := yas hR (List.mem_cons_of_mem _ (List.mem_cons_of_mem _ List.mem_cons_self))
          have fS : ∀ j : Nat, j < 16 → r2 (4194310 + 64 * j) = (bif decide (r 1048960 = (j : Int)) then ((0, -1) : ycV) else (0, r (4194310 + 64 * j))).2 := fun j hj => hR.2.1 _ List.mem_cons_self (4194310, 16, 217) List.mem_cons_self rfl j hj
          have fD : ∀ j : Nat, j < 8 → r2 (4195394 + 64 * j) = (xct r (.branch 0 (.leaf (10, .num 4195394)) (.branch 0 (.branch 0 (.branch 0 (.leaf (0, .add (.var 4195458) (.num 1))) (.leaf (10, .num 4195394))) (.leaf (10, .num 4195394))) (.leaf (10, .num 4195394)))) j).2 := fun j hj => hR.2.1 _ (List.mem_cons_of_mem _ List.mem_cons_self) (4195394, 8, 207) (List.mem_cons_of_mem _ List.mem_cons_self) rfl j hj
          have fD2 : ∀ s : Nat, s < 8 → s ≠ (S p).toNat → r2 (4195394 + 64 * s) = D s := fun s hs hn => ((fD s (by omega)).trans (yb48_d1 r s hs (by omega))).trans (m5 s hs)
          have t1 : (0 : Int) ≤ r 1048704 ∧ r 1048704 ≤ (6 : Int) := hR.2.2.1 _ (List.mem_cons_of_mem _ List.mem_cons_self)
          have hv2 := yb48a_n hv (by omega) (by decide)
          exact hC r2 w x (f + 1) (yb48u S p (-1)) (fun s => r2 (4195394 + 64 * s)) hr2 G2 trivial ⟨aw, a1048577.trans m2, by omega, fun k hk => yb48_fu (fS k (by omega)) hup rfl (m4 k hk), fun _ _ => rfl, yb48J_step m6 hp (by omega) fD2 (by decide)⟩ (by omega) hv2
        · have a1048640 : r2 1048640 = r 1048640 := yas hR List.mem_cons_self
          have a1048704 : r2 1048704 = (r 1048704 + (1 : Int)) := yas hR (List.mem_cons_of_mem _ List.mem_cons_self)
          have fS : ∀ j : Nat, j < 16 → r2 (4194310 + 64 * j) = (bif decide (r 1048960 = (j : Int)) then ((0, -1) : ycV) else (0, r (4194310 + 64 * j))).2 := fun j hj => hR.2.1 _ List.mem_cons_self (4194310, 16, 217) List.mem_cons_self rfl j hj
          have fD : ∀ j : Nat, j < 8 → r2 (4195394 + 64 * j) = (xct r (.branch 0 (.leaf (10, .num 4195394)) (.branch 0 (.branch 0 (.branch 0 (.leaf (0, .add (.var 4195458) (.num 1))) (.leaf (10, .num 4195394))) (.leaf (10, .num 4195394))) (.leaf (10, .num 4195394)))) j).2 := fun j hj => hR.2.1 _ (List.mem_cons_of_mem _ List.mem_cons_self) (4195394, 8, 207) (List.mem_cons_of_mem _ List.mem_cons_self) rfl j hj
          have fD2 : ∀ s : Nat, s < 8 → s ≠ (S p).toNat → r2 (4195394 + 64 * s) = D s := fun s hs hn => ((fD s (by omega)).trans (yb48_d1 r s hs (by omega))).trans (m5 s hs)
          have t1 : (0 : Int) ≤ r 1048704 ∧ r 1048704 ≤ (6 : Int) := hR.2.2.1 _ (List.mem_cons_of_mem _ List.mem_cons_self)
          have hv2 := yb48a_n hv (by omega) (by decide)
          have t0 : (20000 : Int) ≤ r 1048640 ∧ r 1048640 ≤ (20000 : Int) := hR.2.2.1 _ List.mem_cons_self
          have hn : n = 0 := by omega
          subst hn
          exact hE3 (yb48_0 hv2) r2 hr2 G2 trivial
      · have hv := yb48w_s hy (by omega)
        have ed : r 4195522 = 0 := (m5 2 (by decide)).trans (by
          have z := m6.2.2.1 p hp (by omega)
          rw [e] at z
          exact z)
        have H1 := xHc (e := .sub (.var 128) (.var 1048960)) (lo := 1) (hi := 16) H (show (1 : Int) ≤ (r 128 - r 1048960) by omega) (show (r 128 - r 1048960) ≤ (16 : Int) by omega)
        have H2 := xHc (e := .sub (.var 1048960) (.var 1049024)) (lo := 0) (hi := 0) H1 (show (0 : Int) ≤ (r 1048960 - r 1049024) by omega) (show (r 1048960 - r 1049024) ≤ (0 : Int) by omega)
        have H3 := xHc (e := .pow (.sub (.num 4194310) (.var 1048960)) 0) (lo := 2) (hi := 2) H2 (show (2 : Int) ≤ r (4194310 + 64 * (r 1048960).toNat) by omega) (show r (4194310 + 64 * (r 1048960).toNat) ≤ (2 : Int) by omega)
        have H4 := xHc (e := .var 4195522) (lo := 0) (hi := 0) H3 (show (0 : Int) ≤ r 4195522 by omega) (show r 4195522 ≤ (0 : Int) by omega)
        refine yz_run hL yq48_W5s2 hr H4 (xcut_s fun c hc r2 G2 hR => ?_)
        have hr2 : yzr L xs r2 := fun i hi => by rw [hR.2.2.2 i hi]; exact hr i hi
        have aw : r2 128 = w := (hR.2.2.2 128 (by decide)).trans m1
        simp only [List.mem_cons, List.not_mem_nil, or_false] at hc
        rcases hc with rfl | rfl | rfl
        · have a1048640 : r2 1048640 = r 1048640 := yas hR List.mem_cons_self
          have a1048704 : r2 1048704 = (r 1048704 + (1 : Int)) := yas hR (List.mem_cons_of_mem _ List.mem_cons_self)
          have fS : ∀ j : Nat, j < 16 → r2 (4194310 + 64 * j) = (bif decide (r 1048960 = (j : Int)) then ((0, -1) : ycV) else (0, r (4194310 + 64 * j))).2 := fun j hj => hR.2.1 _ List.mem_cons_self (4194310, 16, 217) List.mem_cons_self rfl j hj
          have fD : ∀ j : Nat, j < 8 → r2 (4195394 + 64 * j) = (xct r (.branch 0 (.branch 0 (.leaf (10, .num 4195394)) (.branch 0 (.branch 0 (.leaf (0, .add (.var 4195522) (.num 1))) (.leaf (10, .num 4195394))) (.leaf (10, .num 4195394)))) (.leaf (10, .num 4195394))) j).2 := fun j hj => hR.2.1 _ (List.mem_cons_of_mem _ List.mem_cons_self) (4195394, 8, 207) (List.mem_cons_of_mem _ List.mem_cons_self) rfl j hj
          have fD2 : ∀ s : Nat, s < 8 → s ≠ (S p).toNat → r2 (4195394 + 64 * s) = D s := fun s hs hn => ((fD s (by omega)).trans (yb48_d2 r s hs (by omega))).trans (m5 s hs)
          have t0 : (7 : Int) ≤ r 1048704 ∧ r 1048704 ≤ (7 : Int) := hR.2.2.1 _ List.mem_cons_self
          exact hE0 (yb48a_e hv (by omega)) r2 hr2 G2 trivial
        · have a1048577 : r2 1048577 = r 1048577 := yas hR List.mem_cons_self
          have a1048640 : r2 1048640 = r 1048640 := yas hR (List.mem_cons_of_mem _ List.mem_cons_self)
          have a1048704 : r2 1048704 = (r 1048704 + (1 : Int)) := yas hR (List.mem_cons_of_mem _ (List.mem_cons_of_mem _ List.mem_cons_self))
          have fS : ∀ j : Nat, j < 16 → r2 (4194310 + 64 * j) = (bif decide (r 1048960 = (j : Int)) then ((0, -1) : ycV) else (0, r (4194310 + 64 * j))).2 := fun j hj => hR.2.1 _ List.mem_cons_self (4194310, 16, 217) List.mem_cons_self rfl j hj
          have fD : ∀ j : Nat, j < 8 → r2 (4195394 + 64 * j) = (xct r (.branch 0 (.branch 0 (.leaf (10, .num 4195394)) (.branch 0 (.branch 0 (.leaf (0, .add (.var 4195522) (.num 1))) (.leaf (10, .num 4195394))) (.leaf (10, .num 4195394)))) (.leaf (10, .num 4195394))) j).2 := fun j hj => hR.2.1 _ (List.mem_cons_of_mem _ List.mem_cons_self) (4195394, 8, 207) (List.mem_cons_of_mem _ List.mem_cons_self) rfl j hj
          have fD2 : ∀ s : Nat, s < 8 → s ≠ (S p).toNat → r2 (4195394 + 64 * s) = D s := fun s hs hn => ((fD s (by omega)).trans (yb48_d2 r s hs (by omega))).trans (m5 s hs)
          have t1 : (0 : Int) ≤ r 1048704 ∧ r 1048704 ≤ (6 : Int) := hR.2.2.1 _ (List.mem_cons_of_mem _ List.mem_cons_self)
          have hv2 := yb48a_n hv (by omega) (by decide)
          exact hC r2 w x (f + 1) (yb48u S p (-1)) (fun s => r2 (4195394 + 64 * s)) hr2 G2 trivial ⟨aw, a1048577.trans m2, by omega, fun k hk => yb48_fu (fS k (by omega)) hup rfl (m4 k hk), fun _ _ => rfl, yb48J_step m6 hp (by omega) fD2 (by decide)⟩ (by omega) hv2
        · have a1048640 : r2 1048640 = r 1048640 := yas hR List.mem_cons_self
          have a1048704 : r2 1048704 = (r 1048704 + (1 : Int)) := yas hR (List.mem_cons_of_mem _ List.mem_cons_self)
          have fS : ∀ j : Nat, j < 16 → r2 (4194310 + 64 * j) = (bif decide (r 1048960 = (j : Int)) then ((0, -1) : ycV) else (0, r (4194310 + 64 * j))).2 := fun j hj => hR.2.1 _ List.mem_cons_self (4194310, 16, 217) List.mem_cons_self rfl j hj
          have fD : ∀ j : Nat, j < 8 → r2 (4195394 + 64 * j) = (xct r (.branch 0 (.branch 0 (.leaf (10, .num 4195394)) (.branch 0 (.branch 0 (.leaf (0, .add (.var 4195522) (.num 1))) (.leaf (10, .num 4195394))) (.leaf (10, .num 4195394)))) (.leaf (10, .num 4195394))) j).2 := fun j hj => hR.2.1 _ (List.mem_cons_of_mem _ List.mem_cons_self) (4195394, 8, 207) (List.mem_cons_of_mem _ List.mem_cons_self) rfl j hj
          have fD2 : ∀ s : Nat, s < 8 → s ≠ (S p).toNat → r2 (4195394 + 64 * s) = D s := fun s hs hn => ((fD s (by omega)).trans (yb48_d2 r s hs (by omega))).trans (m5 s hs)
          have t1 : (0 : Int) ≤ r 1048704 ∧ r 1048704 ≤ (6 : Int) := hR.2.2.1 _ (List.mem_cons_of_mem _ List.mem_cons_self)
          have hv2 := yb48a_n hv (by omega) (by decide)
          have t0 : (20000 : Int) ≤ r 1048640 ∧ r 1048640 ≤ (20000 : Int) := hR.2.2.1 _ List.mem_cons_self
          have hn : n = 0 := by omega
          subst hn
          exact hE3 (yb48_0 hv2) r2 hr2 G2 trivial
    · have H1 := xHc (e := .sub (.var 128) (.var 1048960)) (lo := 1) (hi := 16) H (show (1 : Int) ≤ (r 128 - r 1048960) by omega) (show (r 128 - r 1048960) ≤ (16 : Int) by omega)
      have H2 := xHc (e := .sub (.var 1048960) (.var 1049024)) (lo := -15) (hi := -1) H1 (show (-15 : Int) ≤ (r 1048960 - r 1049024) by omega) (show (r 1048960 - r 1049024) ≤ (-1 : Int) by omega)
      refine yz_run hL yq48_W5n hr H2 (xcut_s fun c hc r2 G2 hR => ?_)
      have hr2 : yzr L xs r2 := fun i hi => by rw [hR.2.2.2 i hi]; exact hr i hi
      have aw : r2 128 = w := (hR.2.2.2 128 (by decide)).trans m1
      rw [List.mem_singleton] at hc
      subst hc
      have a1048577 : r2 1048577 = r 1048577 := yas hR List.mem_cons_self
      have a1049024 : r2 1049024 = r 1049024 := yas hR (List.mem_cons_of_mem _ List.mem_cons_self)
      have a1048960 : r2 1048960 = (r 1048960 + (1 : Int)) := yas hR (List.mem_cons_of_mem _ (List.mem_cons_of_mem _ List.mem_cons_self))
      have a1048640 : r2 1048640 = r 1048640 := yas hR (List.mem_cons_of_mem _ (List.mem_cons_of_mem _ (List.mem_cons_of_mem _ List.mem_cons_self)))
      have a1048704 : r2 1048704 = r 1048704 := yas hR (List.mem_cons_of_mem _ (List.mem_cons_of_mem _ (List.mem_cons_of_mem _ (List.mem_cons_of_mem _ List.mem_cons_self))))
      have fS : ∀ j : Nat, j < 16 → r2 (4194310 + 64 * j) = r (4194310 + 64 * j) := fun j hj => hR.2.1 _ List.mem_cons_self (4194310, 16, 217) List.mem_cons_self rfl j hj
      have fD : ∀ j : Nat, j < 8 → r2 (4195394 + 64 * j) = r (4195394 + 64 * j) := fun j hj => hR.2.1 _ (List.mem_cons_of_mem _ List.mem_cons_self) (4195394, 8, 207) (List.mem_cons_of_mem _ List.mem_cons_self) rfl j hj
      exact ih r2 hr2 G2 trivial ⟨aw, a1048577.trans m2, a1048704.trans m3, fun k hk => (fS k (by omega)).trans (m4 k hk), fun s hs => (fD s (by omega)).trans (m5 s hs), m6⟩ (by omega) (by omega) (by omega) (by omega)
theorem y48_C6 {L : Nat} {xs : Nat → Int32} (hL : L ≤ 3584) {y0 : Int} {n : Nat} (hW : yb48W L xs yZ0 y0 yt48_W6 yF48_W6 n 6) : yb48C L xs yZ0 y0 yt48_C6 yF48_C6 (n + 1) 6 := by
  intro r w x f S D hr H hZ hM hT hy
  obtain ⟨m1, m2, m3, m4, m5, m6⟩ := hM
  have hw : 1 ≤ r 128 ∧ r 128 ≤ 16 := xbd_s H (e := .var 128) (lo := 1) (hi := 16) (by decide +kernel)
  have hw2 : 1 ≤ w ∧ w ≤ 16 := by omega
  have H1 := xHc (e := .sub (.var 128) (.pow (.add (.pow (.add (.pow (.add (.pow (.add (.var 1048577) (.num 6364136223846793005)) 38) (.num 1442695040888963407)) 36) (.num 33)) 51) (.var 128)) 40)) (lo := 1) (hi := 16) H (by rw [xden_sub, xden_var, yb48P_d, m1, m2]; exact (yb48_w1 (yb48P_r hw2.1 hw2.2) hw2.2).1) (by rw [xden_sub, xden_var, yb48P_d, m1, m2]; exact (yb48_w1 (yb48P_r hw2.1 hw2.2) hw2.2).2)
  refine yz_run hL yq48_C6 hr H1 (xcut_s fun c hc r2 G2 hR => ?_)
  have hr2 : yzr L xs r2 := fun i hi => by rw [hR.2.2.2 i hi]; exact hr i hi
  have aw : r2 128 = w := (hR.2.2.2 128 (by decide)).trans m1
  rw [List.mem_singleton] at hc
  subst hc
  have a1048960 : r2 1048960 = (0 : Int) := yas hR (List.mem_cons_of_mem _ (List.mem_cons_of_mem _ List.mem_cons_self))
  have a1048640 : r2 1048640 = (r 1048640 + (1 : Int)) := yas hR (List.mem_cons_of_mem _ (List.mem_cons_of_mem _ (List.mem_cons_of_mem _ List.mem_cons_self)))
  have a1048704 : r2 1048704 = r 1048704 := yas hR (List.mem_cons_of_mem _ (List.mem_cons_of_mem _ (List.mem_cons_of_mem _ (List.mem_cons_of_mem _ List.mem_cons_self))))
  have fS : ∀ j : Nat, j < 16 → r2 (4194310 + 64 * j) = r (4194310 + 64 * j) := fun j hj => hR.2.1 _ List.mem_cons_self (4194310, 16, 217) List.mem_cons_self rfl j hj
  have fD : ∀ j : Nat, j < 8 → r2 (4195394 + 64 * j) = r (4195394 + 64 * j) := fun j hj => hR.2.1 _ (List.mem_cons_of_mem _ List.mem_cons_self) (4195394, 8, 207) (List.mem_cons_of_mem _ List.mem_cons_self) rfl j hj
  have o1 := hT
  have gS : ∀ k : Nat, (k : Int) < w → r2 (4194310 + 64 * k) = S k := fun k hk => (fS k (by omega)).trans (m4 k hk)
  have gD : ∀ s : Nat, s < 8 → r2 (4195394 + 64 * s) = D s := fun s hs => (fD s (by omega)).trans (m5 s hs)
  have gT : r2 1048640 + (n : Int) = 20000 := by omega
  have a1048577 : r2 1048577 = yb48X (r 1048577) := (yas hR List.mem_cons_self).trans (yb48X_d r)
  have a1049024 : r2 1049024 = yb48P (r 128) (r 1048577) := (yas hR (List.mem_cons_of_mem _ List.mem_cons_self)).trans (yb48P_d r)
  exact hW r2 w (yb48X x) f S D (yb48P w x).toNat hr2 G2 trivial ⟨aw, by rw [a1048577, m2], a1048704.trans m3, gS, gD, m6⟩ gT (yb48_w2 (yb48P_r hw2.1 hw2.2)) (by rw [a1049024, m1, m2]; exact yb48_w3 (yb48P_r hw2.1 hw2.2)) (by rw [a1048960]; exact yb48_w5 _) (yb48_t hy)
theorem y48_W6 {L : Nat} {xs : Nat → Int32} (hL : L ≤ 3584) {y0 : Int} {n : Nat} (hC : yb48C L xs yZ0 y0 yt48_C6 yF48_C6 n 6) (hC1 : yb48C L xs yZ0 y0 yt48_C5 yF48_C5 n 5) (hE0 : yb48E L xs yZ0 y0 (0) yt48_E0 yF48_E0) (hE3 : yb48E L xs yZ0 y0 (-3) yt48_E3 yF48_E3) : yb48W L xs yZ0 y0 yt48_W6 yF48_W6 n 6 := by
  intro r w x f S D p hr H hZ hM hT hp hP hU hy
  suffices main : ∀ d : Nat, ∀ r, yzr L xs r → xH r yF48_W6 → yZ0 r → yb48M r w 6 x f S D → r 1048640 + (n : Int) = 20000 → r 1049024 = (p : Int) → r 1048960 ≤ (p : Int) → (p : Int) - r 1048960 < (d : Int) → xGl (yfT (ykold L xs)) r yzP yt48_W6 from
    main (p + 1) r hr H hZ hM hT hP hU (by
      have hu : 0 ≤ r 1048960 ∧ r 1048960 ≤ 15 := xbd_s H (e := .var 1048960) (lo := 0) (hi := 15) (by decide +kernel)
      omega)
  intro d
  induction d with
  | zero =>
    intro r hr H hZ hM hT hP hU hd
    omega
  | succ d ih =>
    intro r hr H hZ hM hT hP hU hd
    obtain ⟨m1, m2, m3, m4, m5, m6⟩ := hM
    have hw : 1 ≤ r 128 ∧ r 128 ≤ 16 := xbd_s H (e := .var 128) (lo := 1) (hi := 16) (by decide +kernel)
    have hu : 0 ≤ r 1048960 ∧ r 1048960 ≤ 15 := xbd_s H (e := .var 1048960) (lo := 0) (hi := 15) (by decide +kernel)
    have hf : 0 ≤ r 1048704 ∧ r 1048704 ≤ 7 := xbd_s H (e := .var 1048704) (lo := 0) (hi := 7) (by decide +kernel)
    by_cases hup : r 1048960 = (p : Int)
    · have es : r (4194310 + 64 * (r 1048960).toNat) = S p := by
        have e0 : (r 1048960).toNat = p := by omega
        rw [e0]
        exact m4 p hp
      have j1 := m6.1 p hp
      have e : S p = -1 ∨ S p = 0 ∨ S p = 1 := by omega
      rcases e with e | e | e
      · have hv := yb48w_t (q := 5) hy e
        have hv2 := yb48a_n hv (by omega) (by decide)
        have H1 := xHc (e := .sub (.var 128) (.var 1048960)) (lo := 1) (hi := 16) H (show (1 : Int) ≤ (r 128 - r 1048960) by omega) (show (r 128 - r 1048960) ≤ (16 : Int) by omega)
        have H2 := xHc (e := .sub (.var 1048960) (.var 1049024)) (lo := 0) (hi := 0) H1 (show (0 : Int) ≤ (r 1048960 - r 1049024) by omega) (show (r 1048960 - r 1049024) ≤ (0 : Int) by omega)
        have H3 := xHc (e := .pow (.sub (.num 4194310) (.var 1048960)) 0) (lo := -1) (hi := -1) H2 (show (-1 : Int) ≤ r (4194310 + 64 * (r 1048960).toNat) by omega) (show r (4194310 + 64 * (r 1048960).toNat) ≤ (-1 : Int) by omega)
        refine yz_run hL yq48_W6t hr H3 (xcut_s fun c hc r2 G2 hR => ?_)
        have hr2 : yzr L xs r2 := fun i hi => by rw [hR.2.2.2 i hi]; exact hr i hi
        have aw : r2 128 = w := (hR.2.2.2 128 (by decide)).trans m1
        simp only [List.mem_cons, List.not_mem_nil, or_false] at hc
        rcases hc with rfl | rfl
        · have a1048577 : r2 1048577 = r 1048577 := yas hR List.mem_cons_self
          have a1048640 : r2 1048640 = r 1048640 := yas hR (List.mem_cons_of_mem _ List.mem_cons_self)
          have a1048704 : r2 1048704 = r 1048704 := yas hR (List.mem_cons_of_mem _ (List.mem_cons_of_mem _ List.mem_cons_self))
          have fS : ∀ j : Nat, j < 16 → r2 (4194310 + 64 * j) = (bif decide (r 1048960 = (j : Int)) then ((0, 2) : ycV) else (0, r (4194310 + 64 * j))).2 := fun j hj => hR.2.1 _ List.mem_cons_self (4194310, 16, 217) List.mem_cons_self rfl j hj
          have fD : ∀ j : Nat, j < 8 → r2 (4195394 + 64 * j) = r (4195394 + 64 * j) := fun j hj => hR.2.1 _ (List.mem_cons_of_mem _ List.mem_cons_self) (4195394, 8, 207) (List.mem_cons_of_mem _ List.mem_cons_self) rfl j hj
          exact hC1 r2 w x f (yb48u S p (8 - ((5 + 1 : Nat) : Int))) D hr2 G2 trivial ⟨aw, a1048577.trans m2, a1048704.trans m3, fun k hk => yb48_fu (fS k (by omega)) hup (by decide) (m4 k hk), fun s hs => (fD s (by omega)).trans (m5 s hs), yb48J_take m6 hp (by decide)⟩ (by omega) hv2
        · have a1048640 : r2 1048640 = r 1048640 := yas hR List.mem_cons_self
          have a1048704 : r2 1048704 = r 1048704 := yas hR (List.mem_cons_of_mem _ List.mem_cons_self)
          have fS : ∀ j : Nat, j < 16 → r2 (4194310 + 64 * j) = (bif decide (r 1048960 = (j : Int)) then ((0, 2) : ycV) else (0, r (4194310 + 64 * j))).2 := fun j hj => hR.2.1 _ List.mem_cons_self (4194310, 16, 217) List.mem_cons_self rfl j hj
          have fD : ∀ j : Nat, j < 8 → r2 (4195394 + 64 * j) = r (4195394 + 64 * j) := fun j hj => hR.2.1 _ (List.mem_cons_of_mem _ List.mem_cons_self) (4195394, 8, 207) (List.mem_cons_of_mem _ List.mem_cons_self) rfl j hj
          have t0 : (20000 : Int) ≤ r 1048640 ∧ r 1048640 ≤ (20000 : Int) := hR.2.2.1 _ List.mem_cons_self
          have hn : n = 0 := by omega
          subst hn
          exact hE3 (yb48_0 hv2) r2 hr2 G2 trivial
      · have hv := yb48w_s hy (by omega)
        have ed : r 4195394 = 0 := (m5 0 (by decide)).trans (by
          have z := m6.2.2.1 p hp (by omega)
          rw [e] at z
          exact z)
        have H1 := xHc (e := .sub (.var 128) (.var 1048960)) (lo := 1) (hi := 16) H (show (1 : Int) ≤ (r 128 - r 1048960) by omega) (show (r 128 - r 1048960) ≤ (16 : Int) by omega)
        have H2 := xHc (e := .sub (.var 1048960) (.var 1049024)) (lo := 0) (hi := 0) H1 (show (0 : Int) ≤ (r 1048960 - r 1049024) by omega) (show (r 1048960 - r 1049024) ≤ (0 : Int) by omega)
        have H3 := xHc (e := .pow (.sub (.num 4194310) (.var 1048960)) 0) (lo := 0) (hi := 0) H2 (show (0 : Int) ≤ r (4194310 + 64 * (r 1048960).toNat) by omega) (show r (4194310 + 64 * (r 1048960).toNat) ≤ (0 : Int) by omega)
        have H4 := xHc (e := .var 4195394) (lo := 0) (hi := 0) H3 (show (0 : Int) ≤ r 4195394 by omega) (show r 4195394 ≤ (0 : Int) by omega)
        refine yz_run hL yq48_W6s0 hr H4 (xcut_s fun c hc r2 G2 hR => ?_)
        have hr2 : yzr L xs r2 := fun i hi => by rw [hR.2.2.2 i hi]; exact hr i hi
        have aw : r2 128 = w := (hR.2.2.2 128 (by decide)).trans m1
        simp only [List.mem_cons, List.not_mem_nil, or_false] at hc
        rcases hc with rfl | rfl | rfl
        · have a1048640 : r2 1048640 = r 1048640 := yas hR List.mem_cons_self
          have a1048704 : r2 1048704 = (r 1048704 + (1 : Int)) := yas hR (List.mem_cons_of_mem _ List.mem_cons_self)
          have fS : ∀ j : Nat, j < 16 → r2 (4194310 + 64 * j) = (bif decide (r 1048960 = (j : Int)) then ((0, -1) : ycV) else (0, r (4194310 + 64 * j))).2 := fun j hj => hR.2.1 _ List.mem_cons_self (4194310, 16, 217) List.mem_cons_self rfl j hj
          have fD : ∀ j : Nat, j < 8 → r2 (4195394 + 64 * j) = (xct r (.branch 0 (.branch 0 (.branch 0 (.branch 0 (.leaf (0, .add (.var 4195394) (.num 1))) (.leaf (10, .num 4195394))) (.leaf (10, .num 4195394))) (.leaf (10, .num 4195394))) (.leaf (10, .num 4195394))) j).2 := fun j hj => hR.2.1 _ (List.mem_cons_of_mem _ List.mem_cons_self) (4195394, 8, 207) (List.mem_cons_of_mem _ List.mem_cons_self) rfl j hj
          have fD2 : ∀ s : Nat, s < 8 → s ≠ (S p).toNat → r2 (4195394 + 64 * s) = D s := fun s hs hn => ((fD s (by omega)).trans (yb48_d0 r s hs (by omega))).trans (m5 s hs)
          have t0 : (7 : Int) ≤ r 1048704 ∧ r 1048704 ≤ (7 : Int) := hR.2.2.1 _ List.mem_cons_self
          exact hE0 (yb48a_e hv (by omega)) r2 hr2 G2 trivial
        · have a1048577 : r2 1048577 = r 1048577 := yas hR List.mem_cons_self
          have a1048640 : r2 1048640 = r 1048640 := yas hR (List.mem_cons_of_mem _ List.mem_cons_self)
          have a1048704 : r2 1048704 = (r 1048704 + (1 : Int)) := yas hR (List.mem_cons_of_mem _ (List.mem_cons_of_mem _ List.mem_cons_self))
          have fS : ∀ j : Nat, j < 16 → r2 (4194310 + 64 * j) = (bif decide (r 1048960 = (j : Int)) then ((0, -1) : ycV) else (0, r (4194310 + 64 * j))).2 := fun j hj => hR.2.1 _ List.mem_cons_self (4194310, 16, 217) List.mem_cons_self rfl j hj
          have fD : ∀ j : Nat, j < 8 → r2 (4195394 + 64 * j) = (xct r (.branch 0 (.branch 0 (.branch 0 (.branch 0 (.leaf (0, .add (.var 4195394) (.num 1))) (.leaf (10, .num 4195394))) (.leaf (10, .num 4195394))) (.leaf (10, .num 4195394))) (.leaf (10, .num 4195394))) j).2 := fun j hj => hR.2.1 _ (List.mem_cons_of_mem _ List.mem_cons_self) (4195394, 8, 207) (List.mem_cons_of_mem _ List.mem_cons_self) rfl j hj
          have fD2 : ∀ s : Nat, s < 8 → s ≠ (S p).toNat → r2 (4195394 + 64 * s) = D s := fun s hs hn => ((fD s (by omega)).trans (yb48_d0 r s hs (by omega))).trans (m5 s hs)
          have t1 : (0 : Int) ≤ r 1048704 ∧ r 1048704 ≤ (6 : Int) := hR.2.2.1 _ (List.mem_cons_of_mem _ List.mem_cons_self)
          have hv2 := yb48a_n hv (by omega) (by decide)
          exact hC r2 w x (f + 1) (yb48u S p (-1)) (fun s => r2 (4195394 + 64 * s)) hr2 G2 trivial ⟨aw, a1048577.trans m2, by omega, fun k hk => yb48_fu (fS k (by omega)) hup rfl (m4 k hk), fun _ _ => rfl, yb48J_step m6 hp (by omega) fD2 (by decide)⟩ (by omega) hv2
        · have a1048640 : r2 1048640 = r 1048640 := yas hR List.mem_cons_self
          have a1048704 : r2 1048704 = (r 1048704 + (1 : Int)) := yas hR (List.mem_cons_of_mem _ List.mem_cons_self)
          have fS : ∀ j : Nat, j < 16 → r2 (4194310 + 64 * j) = (bif decide (r 1048960 = (j : Int)) then ((0, -1) : ycV) else (0, r (4194310 + 64 * j))).2 := fun j hj => hR.2.1 _ List.mem_cons_self (4194310, 16, 217) List.mem_cons_self rfl j hj
          have fD : ∀ j : Nat, j < 8 → r2 (4195394 + 64 * j) = (xct r (.branch 0 (.branch 0 (.branch 0 (.branch 0 (.leaf (0, .add (.var 4195394) (.num 1))) (.leaf (10, .num 4195394))) (.leaf (10, .num 4195394))) (.leaf (10, .num 4195394))) (.leaf (10, .num 4195394))) j).2 := fun j hj => hR.2.1 _ (List.mem_cons_of_mem _ List.mem_cons_self) (4195394, 8, 207) (List.mem_cons_of_mem _ List.mem_cons_self) rfl j hj
          have fD2 : ∀ s : Nat, s < 8 → s ≠ (S p).toNat → r2 (4195394 + 64 * s) = D s := fun s hs hn => ((fD s (by omega)).trans (yb48_d0 r s hs (by omega))).trans (m5 s hs)
          have t1 : (0 : Int) ≤ r 1048704 ∧ r 1048704 ≤ (6 : Int) := hR.2.2.1 _ (List.mem_cons_of_mem _ List.mem_cons_self)
          have hv2 := yb48a_n hv (by omega) (by decide)
          have t0 : (20000 : Int) ≤ r 1048640 ∧ r 1048640 ≤ (20000 : Int) := hR.2.2.1 _ List.mem_cons_self
          have hn : n = 0 := by omega
          subst hn
          exact hE3 (yb48_0 hv2) r2 hr2 G2 trivial
      · have hv := yb48w_s hy (by omega)
        have ed : r 4195458 = 0 := (m5 1 (by decide)).trans (by
          have z := m6.2.2.1 p hp (by omega)
          rw [e] at z
          exact z)
        have H1 := xHc (e := .sub (.var 128) (.var 1048960)) (lo := 1) (hi := 16) H (show (1 : Int) ≤ (r 128 - r 1048960) by omega) (show (r 128 - r 1048960) ≤ (16 : Int) by omega)
        have H2 := xHc (e := .sub (.var 1048960) (.var 1049024)) (lo := 0) (hi := 0) H1 (show (0 : Int) ≤ (r 1048960 - r 1049024) by omega) (show (r 1048960 - r 1049024) ≤ (0 : Int) by omega)
        have H3 := xHc (e := .pow (.sub (.num 4194310) (.var 1048960)) 0) (lo := 1) (hi := 1) H2 (show (1 : Int) ≤ r (4194310 + 64 * (r 1048960).toNat) by omega) (show r (4194310 + 64 * (r 1048960).toNat) ≤ (1 : Int) by omega)
        have H4 := xHc (e := .var 4195458) (lo := 0) (hi := 0) H3 (show (0 : Int) ≤ r 4195458 by omega) (show r 4195458 ≤ (0 : Int) by omega)
        refine yz_run hL yq48_W6s1 hr H4 (xcut_s fun c hc r2 G2 hR => ?_)
        have hr2 : yzr L xs r2 := fun i hi => by rw [hR.2.2.2 i hi]; exact hr i hi
        have aw : r2 128 = w := (hR.2.2.2 128 (by decide)).trans m1
        simp only [List.mem_cons, List.not_mem_nil, or_false] at hc
        rcases hc with rfl | rfl | rfl
        · have a1048640 : r2 1048640 = r 1048640 := yas hR List.mem_cons_self
          have a1048704 : r2 1048704 = (r 1048704 + (1 : Int)) := yas hR (List.mem_cons_of_mem _ List.mem_cons_self)
          have fS : ∀ j : Nat, j < 16 → r2 (4194310 + 64 * j) = (bif decide (r 1048960 = (j : Int)) then ((0, -1) : ycV) else (0, r (4194310 + 64 * j))).2 := fun j hj => hR.2.1 _ List.mem_cons_self (4194310, 16, 217) List.mem_cons_self rfl j hj
          have fD : ∀ j : Nat, j < 8 → r2 (4195394 + 64 * j) = (xct r (.branch 0 (.leaf (10, .num 4195394)) (.branch 0 (.branch 0 (.branch 0 (.leaf (0, .add (.var 4195458) (.num 1))) (.leaf (10, .num 4195394))) (.leaf (10, .num 4195394))) (.leaf (10, .num 4195394)))) j).2 := fun j hj => hR.2.1 _ (List.mem_cons_of_mem _ List.mem_cons_self) (4195394, 8, 207) (List.mem_cons_of_mem _ List.mem_cons_self) rfl j hj
          have fD2 : ∀ s : Nat, s < 8 → s ≠ (S p).toNat → r2 (4195394 + 64 * s) = D s := fun s hs hn => ((fD s (by omega)).trans (yb48_d1 r s hs (by omega))).trans (m5 s hs)
          have t0 : (7 : Int) ≤ r 1048704 ∧ r 1048704 ≤ (7 : Int) := hR.2.2.1 _ List.mem_cons_self
          exact hE0 (yb48a_e hv (by omega)) r2 hr2 G2 trivial
        · have a1048577 : r2 1048577 = r 1048577 := yas hR List.mem_cons_self
          have a1048640 : r2 1048640 = r 1048640 := yas hR (List.mem_cons_of_mem _ List.mem_cons_self)
          have a1048704 : r2 1048704 = (r 1048704 + (1 : Int)) := yas hR (List.mem_cons_of_mem _ (List.mem_cons_of_mem _ List.mem_cons_self))
          have fS : ∀ j : Nat, j < 16 → r2 (4194310 + 64 * j) = (bif decide (r 1048960 = (j : Int)) then ((0, -1) : ycV) else (0, r (4194310 + 64 * j))).2 := fun j hj => hR.2.1 _ List.mem_cons_self (4194310, 16, 217) List.mem_cons_self rfl j hj
          have fD : ∀ j : Nat, j < 8 → r2 (4195394 + 64 * j) = (xct r (.branch 0 (.leaf (10, .num 4195394)) (.branch 0 (.branch 0 (.branch 0 (.leaf (0, .add (.var 4195458) (.num 1))) (.leaf (10, .num 4195394))) (.leaf (10, .num 4195394))) (.leaf (10, .num 4195394)))) j).2 := fun j hj => hR.2.1 _ (List.mem_cons_of_mem _ List.mem_cons_self) (4195394, 8, 207) (List.mem_cons_of_mem _ List.mem_cons_self) rfl j hj
          have fD2 : ∀ s : Nat, s < 8 → s ≠ (S p).toNat → r2 (4195394 + 64 * s) = D s := fun s hs hn => ((fD s (by omega)).trans (yb48_d1 r s hs (by omega))).trans (m5 s hs)
          have t1 : (0 : Int) ≤ r 1048704 ∧ r 1048704 ≤ (6 : Int) := hR.2.2.1 _ (List.mem_cons_of_mem _ List.mem_cons_self)
          have hv2 := yb48a_n hv (by omega) (by decide)
          exact hC r2 w x (f + 1) (yb48u S p (-1)) (fun s => r2 (4195394 + 64 * s)) hr2 G2 trivial ⟨aw, a1048577.trans m2, by omega, fun k hk => yb48_fu (fS k (by omega)) hup rfl (m4 k hk), fun _ _ => rfl, yb48J_step m6 hp (by omega) fD2 (by decide)⟩ (by omega) hv2
        · have a1048640 : r2 1048640 = r 1048640 := yas hR List.mem_cons_self
          have a1048704 : r2 1048704 = (r 1048704 + (1 : Int)) := yas hR (List.mem_cons_of_mem _ List.mem_cons_self)
          have fS : ∀ j : Nat, j < 16 → r2 (4194310 + 64 * j) = (bif decide (r 1048960 = (j : Int)) then ((0, -1) : ycV) else (0, r (4194310 + 64 * j))).2 := fun j hj => hR.2.1 _ List.mem_cons_self (4194310, 16, 217) List.mem_cons_self rfl j hj
          have fD : ∀ j : Nat, j < 8 → r2 (4195394 + 64 * j) = (xct r (.branch 0 (.leaf (10, .num 4195394)) (.branch 0 (.branch 0 (.branch 0 (.leaf (0, .add (.var 4195458) (.num 1))) (.leaf (10, .num 4195394))) (.leaf (10, .num 4195394))) (.leaf (10, .num 4195394)))) j).2 := fun j hj => hR.2.1 _ (List.mem_cons_of_mem _ List.mem_cons_self) (4195394, 8, 207) (List.mem_cons_of_mem _ List.mem_cons_self) rfl j hj
          have fD2 : ∀ s : Nat, s < 8 → s ≠ (S p).toNat → r2 (4195394 + 64 * s) = D s := fun s hs hn => ((fD s (by omega)).trans (yb48_d1 r s hs (by omega))).trans (m5 s hs)
          have t1 : (0 : Int) ≤ r 1048704 ∧ r 1048704 ≤ (6 : Int) := hR.2.2.1 _ (List.mem_cons_of_mem _ List.mem_cons_self)
          have hv2 := yb48a_n hv (by omega) (by decide)
          have t0 : (20000 : Int) ≤ r 1048640 ∧ r 1048640 ≤ (20000 : Int) := hR.2.2.1 _ List.mem_cons_self
          have hn : n = 0 := by omega
          subst hn
          exact hE3 (yb48_0 hv2) r2 hr2 G2 trivial
    · have H1 := xHc (e := .sub (.var 128) (.var 1048960)) (lo := 1) (hi := 16) H (show (1 : Int) ≤ (r 128 - r 1048960) by omega) (show (r 128 - r 1048960) ≤ (16 : Int) by omega)
      have H2 := xHc (e := .sub (.var 1048960) (.var 1049024)) (lo := -15) (hi := -1) H1 (show (-15 : Int) ≤ (r 1048960 - r 1049024) by omega) (show (r 1048960 - r 1049024) ≤ (-1 : Int) by omega)
      refine yz_run hL yq48_W6n hr H2 (xcut_s fun c hc r2 G2 hR => ?_)
      have hr2 : yzr L xs r2 := fun i hi => by rw [hR.2.2.2 i hi]; exact hr i hi
      have aw : r2 128 = w := (hR.2.2.2 128 (by decide)).trans m1
      rw [List.mem_singleton] at hc
      subst hc
      have a1048577 : r2 1048577 = r 1048577 := yas hR List.mem_cons_self
      have a1049024 : r2 1049024 = r 1049024 := yas hR (List.mem_cons_of_mem _ List.mem_cons_self)
      have a1048960 : r2 1048960 = (r 1048960 + (1 : Int)) := yas hR (List.mem_cons_of_mem _ (List.mem_cons_of_mem _ List.mem_cons_self))
      have a1048640 : r2 1048640 = r 1048640 := yas hR (List.mem_cons_of_mem _ (List.mem_cons_of_mem _ (List.mem_cons_of_mem _ List.mem_cons_self)))
      have a1048704 : r2 1048704 = r 1048704 := yas hR (List.mem_cons_of_mem _ (List.mem_cons_of_mem _ (List.mem_cons_of_mem _ (List.mem_cons_of_mem _ List.mem_cons_self))))
      have fS : ∀ j : Nat, j < 16 → r2 (4194310 + 64 * j) = r (4194310 + 64 * j) := fun j hj => hR.2.1 _ List.mem_cons_self (4194310, 16, 217) List.mem_cons_self rfl j hj
      have fD : ∀ j : Nat, j < 8 → r2 (4195394 + 64 * j) = r (4195394 + 64 * j) := fun j hj => hR.2.1 _ (List.mem_cons_of_mem _ List.mem_cons_self) (4195394, 8, 207) (List.mem_cons_of_mem _ List.mem_cons_self) rfl j hj
      exact ih r2 hr2 G2 trivial ⟨aw, a1048577.trans m2, a1048704.trans m3, fun k hk => (fS k (by omega)).trans (m4 k hk), fun s hs => (fD s (by omega)).trans (m5 s hs), m6⟩ (by omega) (by omega) (by omega) (by omega)
theorem y48_C7 {L : Nat} {xs : Nat → Int32} (hL : L ≤ 3584) {y0 : Int} {n : Nat} (hW : yb48W L xs yZ0 y0 yt48_W7 yF48_W7 n 7) : yb48C L xs yZ0 y0 yt48_C7 yF48_C7 (n + 1) 7 := by
  intro r w x f S D hr H hZ hM hT hy
  obtain ⟨m1, m2, m3, m4, m5, m6⟩ := hM
  have hw : 1 ≤ r 128 ∧ r 128 ≤ 16 := xbd_s H (e := .var 128) (lo := 1) (hi := 16) (by decide +kernel)
  have hw2 : 1 ≤ w ∧ w ≤ 16 := by omega
  have H1 := xHc (e := .sub (.var 128) (.pow (.add (.pow (.add (.pow (.add (.pow (.add (.var 1048577) (.num 6364136223846793005)) 38) (.num 1442695040888963407)) 36) (.num 33)) 51) (.var 128)) 40)) (lo := 1) (hi := 16) H (by rw [xden_sub, xden_var, yb48P_d, m1, m2]; exact (yb48_w1 (yb48P_r hw2.1 hw2.2) hw2.2).1) (by rw [xden_sub, xden_var, yb48P_d, m1, m2]; exact (yb48_w1 (yb48P_r hw2.1 hw2.2) hw2.2).2)
  refine yz_run hL yq48_C7 hr H1 (xcut_s fun c hc r2 G2 hR => ?_)
  have hr2 : yzr L xs r2 := fun i hi => by rw [hR.2.2.2 i hi]; exact hr i hi
  have aw : r2 128 = w := (hR.2.2.2 128 (by decide)).trans m1
  rw [List.mem_singleton] at hc
  subst hc
  have a1048960 : r2 1048960 = (0 : Int) := yas hR (List.mem_cons_of_mem _ (List.mem_cons_of_mem _ List.mem_cons_self))
  have a1048640 : r2 1048640 = (r 1048640 + (1 : Int)) := yas hR (List.mem_cons_of_mem _ (List.mem_cons_of_mem _ (List.mem_cons_of_mem _ List.mem_cons_self)))
  have a1048704 : r2 1048704 = r 1048704 := yas hR (List.mem_cons_of_mem _ (List.mem_cons_of_mem _ (List.mem_cons_of_mem _ (List.mem_cons_of_mem _ List.mem_cons_self))))
  have fS : ∀ j : Nat, j < 16 → r2 (4194310 + 64 * j) = r (4194310 + 64 * j) := fun j hj => hR.2.1 _ List.mem_cons_self (4194310, 16, 217) List.mem_cons_self rfl j hj
  have fD : ∀ j : Nat, j < 8 → r2 (4195394 + 64 * j) = r (4195394 + 64 * j) := fun j hj => hR.2.1 _ (List.mem_cons_of_mem _ List.mem_cons_self) (4195394, 8, 207) (List.mem_cons_of_mem _ List.mem_cons_self) rfl j hj
  have o1 := hT
  have gS : ∀ k : Nat, (k : Int) < w → r2 (4194310 + 64 * k) = S k := fun k hk => (fS k (by omega)).trans (m4 k hk)
  have gD : ∀ s : Nat, s < 8 → r2 (4195394 + 64 * s) = D s := fun s hs => (fD s (by omega)).trans (m5 s hs)
  have gT : r2 1048640 + (n : Int) = 20000 := by omega
  have a1048577 : r2 1048577 = yb48X (r 1048577) := (yas hR List.mem_cons_self).trans (yb48X_d r)
  have a1049024 : r2 1049024 = yb48P (r 128) (r 1048577) := (yas hR (List.mem_cons_of_mem _ List.mem_cons_self)).trans (yb48P_d r)
  exact hW r2 w (yb48X x) f S D (yb48P w x).toNat hr2 G2 trivial ⟨aw, by rw [a1048577, m2], a1048704.trans m3, gS, gD, m6⟩ gT (yb48_w2 (yb48P_r hw2.1 hw2.2)) (by rw [a1049024, m1, m2]; exact yb48_w3 (yb48P_r hw2.1 hw2.2)) (by rw [a1048960]; exact yb48_w5 _) (yb48_t hy)
theorem y48_W7 {L : Nat} {xs : Nat → Int32} (hL : L ≤ 3584) {y0 : Int} {n : Nat} (hC : yb48C L xs yZ0 y0 yt48_C7 yF48_C7 n 7) (hC1 : yb48C L xs yZ0 y0 yt48_C6 yF48_C6 n 6) (hE0 : yb48E L xs yZ0 y0 (0) yt48_E0 yF48_E0) (hE3 : yb48E L xs yZ0 y0 (-3) yt48_E3 yF48_E3) : yb48W L xs yZ0 y0 yt48_W7 yF48_W7 n 7 := by
  intro r w x f S D p hr H hZ hM hT hp hP hU hy
  suffices main : ∀ d : Nat, ∀ r, yzr L xs r → xH r yF48_W7 → yZ0 r → yb48M r w 7 x f S D → r 1048640 + (n : Int) = 20000 → r 1049024 = (p : Int) → r 1048960 ≤ (p : Int) → (p : Int) - r 1048960 < (d : Int) → xGl (yfT (ykold L xs)) r yzP yt48_W7 from
    main (p + 1) r hr H hZ hM hT hP hU (by
      have hu : 0 ≤ r 1048960 ∧ r 1048960 ≤ 15 := xbd_s H (e := .var 1048960) (lo := 0) (hi := 15) (by decide +kernel)
      omega)
  intro d
  induction d with
  | zero =>
    intro r hr H hZ hM hT hP hU hd
    omega
  | succ d ih =>
    intro r hr H hZ hM hT hP hU hd
    obtain ⟨m1, m2, m3, m4, m5, m6⟩ := hM
    have hw : 1 ≤ r 128 ∧ r 128 ≤ 16 := xbd_s H (e := .var 128) (lo := 1) (hi := 16) (by decide +kernel)
    have hu : 0 ≤ r 1048960 ∧ r 1048960 ≤ 15 := xbd_s H (e := .var 1048960) (lo := 0) (hi := 15) (by decide +kernel)
    have hf : 0 ≤ r 1048704 ∧ r 1048704 ≤ 7 := xbd_s H (e := .var 1048704) (lo := 0) (hi := 7) (by decide +kernel)
    by_cases hup : r 1048960 = (p : Int)
    · have es : r (4194310 + 64 * (r 1048960).toNat) = S p := by
        have e0 : (r 1048960).toNat = p := by omega
        rw [e0]
        exact m4 p hp
      have j1 := m6.1 p hp
      have e : S p = -1 ∨ S p = 0 := by omega
      rcases e with e | e
      · have hv := yb48w_t (q := 6) hy e
        have hv2 := yb48a_n hv (by omega) (by decide)
        have H1 := xHc (e := .sub (.var 128) (.var 1048960)) (lo := 1) (hi := 16) H (show (1 : Int) ≤ (r 128 - r 1048960) by omega) (show (r 128 - r 1048960) ≤ (16 : Int) by omega)
        have H2 := xHc (e := .sub (.var 1048960) (.var 1049024)) (lo := 0) (hi := 0) H1 (show (0 : Int) ≤ (r 1048960 - r 1049024) by omega) (show (r 1048960 - r 1049024) ≤ (0 : Int) by omega)
        have H3 := xHc (e := .pow (.sub (.num 4194310) (.var 1048960)) 0) (lo := -1) (hi := -1) H2 (show (-1 : Int) ≤ r (4194310 + 64 * (r 1048960).toNat) by omega) (show r (4194310 + 64 * (r 1048960).toNat) ≤ (-1 : Int) by omega)
        refine yz_run hL yq48_W7t hr H3 (xcut_s fun c hc r2 G2 hR => ?_)
        have hr2 : yzr L xs r2 := fun i hi => by rw [hR.2.2.2 i hi]; exact hr i hi
        have aw : r2 128 = w := (hR.2.2.2 128 (by decide)).trans m1
        simp only [List.mem_cons, List.not_mem_nil, or_false] at hc
        rcases hc with rfl | rfl
        · have a1048577 : r2 1048577 = r 1048577 := yas hR List.mem_cons_self
          have a1048640 : r2 1048640 = r 1048640 := yas hR (List.mem_cons_of_mem _ List.mem_cons_self)
          have a1048704 : r2 1048704 = r 1048704 := yas hR (List.mem_cons_of_mem _ (List.mem_cons_of_mem _ List.mem_cons_self))
          have fS : ∀ j : Nat, j < 16 → r2 (4194310 + 64 * j) = (bif decide (r 1048960 = (j : Int)) then ((0, 1) : ycV) else (0, r (4194310 + 64 * j))).2 := fun j hj => hR.2.1 _ List.mem_cons_self (4194310, 16, 217) List.mem_cons_self rfl j hj
          have fD : ∀ j : Nat, j < 8 → r2 (4195394 + 64 * j) = r (4195394 + 64 * j) := fun j hj => hR.2.1 _ (List.mem_cons_of_mem _ List.mem_cons_self) (4195394, 8, 207) (List.mem_cons_of_mem _ List.mem_cons_self) rfl j hj
          exact hC1 r2 w x f (yb48u S p (8 - ((6 + 1 : Nat) : Int))) D hr2 G2 trivial ⟨aw, a1048577.trans m2, a1048704.trans m3, fun k hk => yb48_fu (fS k (by omega)) hup (by decide) (m4 k hk), fun s hs => (fD s (by omega)).trans (m5 s hs), yb48J_take m6 hp (by decide)⟩ (by omega) hv2
        · have a1048640 : r2 1048640 = r 1048640 := yas hR List.mem_cons_self
          have a1048704 : r2 1048704 = r 1048704 := yas hR (List.mem_cons_of_mem _ List.mem_cons_self)
          have fS : ∀ j : Nat, j < 16 → r2 (4194310 + 64 * j) = (bif decide (r 1048960 = (j : Int)) then ((0, 1) : ycV) else (0, r (4194310 + 64 * j))).2 := fun j hj => hR.2.1 _ List.mem_cons_self (4194310, 16, 217) List.mem_cons_self rfl j hj
          have fD : ∀ j : Nat, j < 8 → r2 (4195394 + 64 * j) = r (4195394 + 64 * j) := fun j hj => hR.2.1 _ (List.mem_cons_of_mem _ List.mem_cons_self) (4195394, 8, 207) (List.mem_cons_of_mem _ List.mem_cons_self) rfl j hj
          have t0 : (20000 : Int) ≤ r 1048640 ∧ r 1048640 ≤ (20000 : Int) := hR.2.2.1 _ List.mem_cons_self
          have hn : n = 0 := by omega
          subst hn
          exact hE3 (yb48_0 hv2) r2 hr2 G2 trivial
      · have hv := yb48w_s hy (by omega)
        have ed : r 4195394 = 0 := (m5 0 (by decide)).trans (by
          have z := m6.2.2.1 p hp (by omega)
          rw [e] at z
          exact z)
        have H1 := xHc (e := .sub (.var 128) (.var 1048960)) (lo := 1) (hi := 16) H (show (1 : Int) ≤ (r 128 - r 1048960) by omega) (show (r 128 - r 1048960) ≤ (16 : Int) by omega)
        have H2 := xHc (e := .sub (.var 1048960) (.var 1049024)) (lo := 0) (hi := 0) H1 (show (0 : Int) ≤ (r 1048960 - r 1049024) by omega) (show (r 1048960 - r 1049024) ≤ (0 : Int) by omega)
        have H3 := xHc (e := .pow (.sub (.num 4194310) (.var 1048960)) 0) (lo := 0) (hi := 0) H2 (show (0 : Int) ≤ r (4194310 + 64 * (r 1048960).toNat) by omega) (show r (4194310 + 64 * (r 1048960).toNat) ≤ (0 : Int) by omega)
        have H4 := xHc (e := .var 4195394) (lo := 0) (hi := 0) H3 (show (0 : Int) ≤ r 4195394 by omega) (show r 4195394 ≤ (0 : Int) by omega)
        refine yz_run hL yq48_W7s0 hr H4 (xcut_s fun c hc r2 G2 hR => ?_)
        have hr2 : yzr L xs r2 := fun i hi => by rw [hR.2.2.2 i hi]; exact hr i hi
        have aw : r2 128 = w := (hR.2.2.2 128 (by decide)).trans m1
        simp only [List.mem_cons, List.not_mem_nil, or_false] at hc
        rcases hc with rfl | rfl | rfl
        · have a1048640 : r2 1048640 = r 1048640 := yas hR List.mem_cons_self
          have a1048704 : r2 1048704 = (r 1048704 + (1 : Int)) := yas hR (List.mem_cons_of_mem _ List.mem_cons_self)
          have fS : ∀ j : Nat, j < 16 → r2 (4194310 + 64 * j) = (bif decide (r 1048960 = (j : Int)) then ((0, -1) : ycV) else (0, r (4194310 + 64 * j))).2 := fun j hj => hR.2.1 _ List.mem_cons_self (4194310, 16, 217) List.mem_cons_self rfl j hj
          have fD : ∀ j : Nat, j < 8 → r2 (4195394 + 64 * j) = (xct r (.branch 0 (.branch 0 (.branch 0 (.branch 0 (.leaf (0, .add (.var 4195394) (.num 1))) (.leaf (10, .num 4195394))) (.leaf (10, .num 4195394))) (.leaf (10, .num 4195394))) (.leaf (10, .num 4195394))) j).2 := fun j hj => hR.2.1 _ (List.mem_cons_of_mem _ List.mem_cons_self) (4195394, 8, 207) (List.mem_cons_of_mem _ List.mem_cons_self) rfl j hj
          have fD2 : ∀ s : Nat, s < 8 → s ≠ (S p).toNat → r2 (4195394 + 64 * s) = D s := fun s hs hn => ((fD s (by omega)).trans (yb48_d0 r s hs (by omega))).trans (m5 s hs)
          have t0 : (7 : Int) ≤ r 1048704 ∧ r 1048704 ≤ (7 : Int) := hR.2.2.1 _ List.mem_cons_self
          exact hE0 (yb48a_e hv (by omega)) r2 hr2 G2 trivial
        · have a1048577 : r2 1048577 = r 1048577 := yas hR List.mem_cons_self
          have a1048640 : r2 1048640 = r 1048640 := yas hR (List.mem_cons_of_mem _ List.mem_cons_self)
          have a1048704 : r2 1048704 = (r 1048704 + (1 : Int)) := yas hR (List.mem_cons_of_mem _ (List.mem_cons_of_mem _ List.mem_cons_self))
          have fS : ∀ j : Nat, j < 16 → r2 (4194310 + 64 * j) = (bif decide (r 1048960 = (j : Int)) then ((0, -1) : ycV) else (0, r (4194310 + 64 * j))).2 := fun j hj => hR.2.1 _ List.mem_cons_self (4194310, 16, 217) List.mem_cons_self rfl j hj
          have fD : ∀ j : Nat, j < 8 → r2 (4195394 + 64 * j) = (xct r (.branch 0 (.branch 0 (.branch 0 (.branch 0 (.leaf (0, .add (.var 4195394) (.num 1))) (.leaf (10, .num 4195394))) (.leaf (10, .num 4195394))) (.leaf (10, .num 4195394))) (.leaf (10, .num 4195394))) j).2 := fun j hj => hR.2.1 _ (List.mem_cons_of_mem _ List.mem_cons_self) (4195394, 8, 207) (List.mem_cons_of_mem _ List.mem_cons_self) rfl j hj
          have fD2 : ∀ s : Nat, s < 8 → s ≠ (S p).toNat → r2 (4195394 + 64 * s) = D s := fun s hs hn => ((fD s (by omega)).trans (yb48_d0 r s hs (by omega))).trans (m5 s hs)
          have t1 : (0 : Int) ≤ r 1048704 ∧ r 1048704 ≤ (6 : Int) := hR.2.2.1 _ (List.mem_cons_of_mem _ List.mem_cons_self)
          have hv2 := yb48a_n hv (by omega) (by decide)
          exact hC r2 w x (f + 1) (yb48u S p (-1)) (fun s => r2 (4195394 + 64 * s)) hr2 G2 trivial ⟨aw, a1048577.trans m2, by omega, fun k hk => yb48_fu (fS k (by omega)) hup rfl (m4 k hk), fun _ _ => rfl, yb48J_step m6 hp (by omega) fD2 (by decide)⟩ (by omega) hv2
        · have a1048640 : r2 1048640 = r 1048640 := yas hR List.mem_cons_self
          have a1048704 : r2 1048704 = (r 1048704 + (1 : Int)) := yas hR (List.mem_cons_of_mem _ List.mem_cons_self)
          have fS : ∀ j : Nat, j < 16 → r2 (4194310 + 64 * j) = (bif decide (r 1048960 = (j : Int)) then ((0, -1) : ycV) else (0, r (4194310 + 64 * j))).2 := fun j hj => hR.2.1 _ List.mem_cons_self (4194310, 16, 217) List.mem_cons_self rfl j hj
          have fD : ∀ j : Nat, j < 8 → r2 (4195394 + 64 * j) = (xct r (.branch 0 (.branch 0 (.branch 0 (.branch 0 (.leaf (0, .add (.var 4195394) (.num 1))) (.leaf (10, .num 4195394))) (.leaf (10, .num 4195394))) (.leaf (10, .num 4195394))) (.leaf (10, .num 4195394))) j).2 := fun j hj => hR.2.1 _ (List.mem_cons_of_mem _ List.mem_cons_self) (4195394, 8, 207) (List.mem_cons_of_mem _ List.mem_cons_self) rfl j hj
          have fD2 : ∀ s : Nat, s < 8 → s ≠ (S p).toNat → r2 (4195394 + 64 * s) = D s := fun s hs hn => ((fD s (by omega)).trans (yb48_d0 r s hs (by omega))).trans (m5 s hs)
          have t1 : (0 : Int) ≤ r 1048704 ∧ r 1048704 ≤ (6 : Int) := hR.2.2.1 _ (List.mem_cons_of_mem _ List.mem_cons_self)
          have hv2 := yb48a_n hv (by omega) (by decide)
          have t0 : (20000 : Int) ≤ r 1048640 ∧ r 1048640 ≤ (20000 : Int) := hR.2.2.1 _ List.mem_cons_self
          have hn : n = 0 := by omega
          subst hn
          exact hE3 (yb48_0 hv2) r2 hr2 G2 trivial
    · have H1 := xHc (e := .sub (.var 128) (.var 1048960)) (lo := 1) (hi := 16) H (show (1 : Int) ≤ (r 128 - r 1048960) by omega) (show (r 128 - r 1048960) ≤ (16 : Int) by omega)
      have H2 := xHc (e := .sub (.var 1048960) (.var 1049024)) (lo := -15) (hi := -1) H1 (show (-15 : Int) ≤ (r 1048960 - r 1049024) by omega) (show (r 1048960 - r 1049024) ≤ (-1 : Int) by omega)
      refine yz_run hL yq48_W7n hr H2 (xcut_s fun c hc r2 G2 hR => ?_)
      have hr2 : yzr L xs r2 := fun i hi => by rw [hR.2.2.2 i hi]; exact hr i hi
      have aw : r2 128 = w := (hR.2.2.2 128 (by decide)).trans m1
      rw [List.mem_singleton] at hc
      subst hc
      have a1048577 : r2 1048577 = r 1048577 := yas hR List.mem_cons_self
      have a1049024 : r2 1049024 = r 1049024 := yas hR (List.mem_cons_of_mem _ List.mem_cons_self)
      have a1048960 : r2 1048960 = (r 1048960 + (1 : Int)) := yas hR (List.mem_cons_of_mem _ (List.mem_cons_of_mem _ List.mem_cons_self))
      have a1048640 : r2 1048640 = r 1048640 := yas hR (List.mem_cons_of_mem _ (List.mem_cons_of_mem _ (List.mem_cons_of_mem _ List.mem_cons_self)))
      have a1048704 : r2 1048704 = r 1048704 := yas hR (List.mem_cons_of_mem _ (List.mem_cons_of_mem _ (List.mem_cons_of_mem _ (List.mem_cons_of_mem _ List.mem_cons_self))))
      have fS : ∀ j : Nat, j < 16 → r2 (4194310 + 64 * j) = r (4194310 + 64 * j) := fun j hj => hR.2.1 _ List.mem_cons_self (4194310, 16, 217) List.mem_cons_self rfl j hj
      have fD : ∀ j : Nat, j < 8 → r2 (4195394 + 64 * j) = r (4195394 + 64 * j) := fun j hj => hR.2.1 _ (List.mem_cons_of_mem _ List.mem_cons_self) (4195394, 8, 207) (List.mem_cons_of_mem _ List.mem_cons_self) rfl j hj
      exact ih r2 hr2 G2 trivial ⟨aw, a1048577.trans m2, a1048704.trans m3, fun k hk => (fS k (by omega)).trans (m4 k hk), fun s hs => (fD s (by omega)).trans (m5 s hs), m6⟩ (by omega) (by omega) (by omega) (by omega)
theorem y48_C8 {L : Nat} {xs : Nat → Int32} (hL : L ≤ 3584) {y0 : Int} {n : Nat} (hW : yb48W L xs yZ0 y0 yt48_W8 yF48_W8 n 8) : yb48C L xs yZ0 y0 yt48_C8 yF48_C8 (n + 1) 8 := by
  intro r w x f S D hr H hZ hM hT hy
  obtain ⟨m1, m2, m3, m4, m5, m6⟩ := hM
  have hw : 1 ≤ r 128 ∧ r 128 ≤ 16 := xbd_s H (e := .var 128) (lo := 1) (hi := 16) (by decide +kernel)
  have hw2 : 1 ≤ w ∧ w ≤ 16 := by omega
  have H1 := xHc (e := .sub (.var 128) (.pow (.add (.pow (.add (.pow (.add (.pow (.add (.var 1048577) (.num 6364136223846793005)) 38) (.num 1442695040888963407)) 36) (.num 33)) 51) (.var 128)) 40)) (lo := 1) (hi := 16) H (by rw [xden_sub, xden_var, yb48P_d, m1, m2]; exact (yb48_w1 (yb48P_r hw2.1 hw2.2) hw2.2).1) (by rw [xden_sub, xden_var, yb48P_d, m1, m2]; exact (yb48_w1 (yb48P_r hw2.1 hw2.2) hw2.2).2)
  refine yz_run hL yq48_C8 hr H1 (xcut_s fun c hc r2 G2 hR => ?_)
  have hr2 : yzr L xs r2 := fun i hi => by rw [hR.2.2.2 i hi]; exact hr i hi
  have aw : r2 128 = w := (hR.2.2.2 128 (by decide)).trans m1
  rw [List.mem_singleton] at hc
  subst hc
  have a1048960 : r2 1048960 = (0 : Int) := yas hR (List.mem_cons_of_mem _ (List.mem_cons_of_mem _ List.mem_cons_self))
  have a1048640 : r2 1048640 = (r 1048640 + (1 : Int)) := yas hR (List.mem_cons_of_mem _ (List.mem_cons_of_mem _ (List.mem_cons_of_mem _ List.mem_cons_self)))
  have a1048704 : r2 1048704 = r 1048704 := yas hR (List.mem_cons_of_mem _ (List.mem_cons_of_mem _ (List.mem_cons_of_mem _ (List.mem_cons_of_mem _ List.mem_cons_self))))
  have fS : ∀ j : Nat, j < 16 → r2 (4194310 + 64 * j) = r (4194310 + 64 * j) := fun j hj => hR.2.1 _ List.mem_cons_self (4194310, 16, 217) List.mem_cons_self rfl j hj
  have fD : ∀ j : Nat, j < 8 → r2 (4195394 + 64 * j) = r (4195394 + 64 * j) := fun j hj => hR.2.1 _ (List.mem_cons_of_mem _ List.mem_cons_self) (4195394, 8, 207) (List.mem_cons_of_mem _ List.mem_cons_self) rfl j hj
  have o1 := hT
  have gS : ∀ k : Nat, (k : Int) < w → r2 (4194310 + 64 * k) = S k := fun k hk => (fS k (by omega)).trans (m4 k hk)
  have gD : ∀ s : Nat, s < 8 → r2 (4195394 + 64 * s) = D s := fun s hs => (fD s (by omega)).trans (m5 s hs)
  have gT : r2 1048640 + (n : Int) = 20000 := by omega
  have a1048577 : r2 1048577 = yb48X (r 1048577) := (yas hR List.mem_cons_self).trans (yb48X_d r)
  have a1049024 : r2 1049024 = yb48P (r 128) (r 1048577) := (yas hR (List.mem_cons_of_mem _ List.mem_cons_self)).trans (yb48P_d r)
  exact hW r2 w (yb48X x) f S D (yb48P w x).toNat hr2 G2 trivial ⟨aw, by rw [a1048577, m2], a1048704.trans m3, gS, gD, m6⟩ gT (yb48_w2 (yb48P_r hw2.1 hw2.2)) (by rw [a1049024, m1, m2]; exact yb48_w3 (yb48P_r hw2.1 hw2.2)) (by rw [a1048960]; exact yb48_w5 _) (yb48_t hy)
theorem y48_W8 {L : Nat} {xs : Nat → Int32} (hL : L ≤ 3584) {y0 : Int} {n : Nat} (hC : yb48C L xs yZ0 y0 yt48_C8 yF48_C8 n 8) (hC1 : yb48C L xs yZ0 y0 yt48_C7 yF48_C7 n 7) (hE0 : yb48E L xs yZ0 y0 (0) yt48_E0 yF48_E0) (hE3 : yb48E L xs yZ0 y0 (-3) yt48_E3 yF48_E3) : yb48W L xs yZ0 y0 yt48_W8 yF48_W8 n 8 := by
  intro r w x f S D p hr H hZ hM hT hp hP hU hy
  suffices main : ∀ d : Nat, ∀ r, yzr L xs r → xH r yF48_W8 → yZ0 r → yb48M r w 8 x f S D → r 1048640 + (n : Int) = 20000 → r 1049024 = (p : Int) → r 1048960 ≤ (p : Int) → (p : Int) - r 1048960 < (d : Int) → xGl (yfT (ykold L xs)) r yzP yt48_W8 from
    main (p + 1) r hr H hZ hM hT hP hU (by
      have hu : 0 ≤ r 1048960 ∧ r 1048960 ≤ 15 := xbd_s H (e := .var 1048960) (lo := 0) (hi := 15) (by decide +kernel)
      omega)
  intro d
  induction d with
  | zero =>
    intro r hr H hZ hM hT hP hU hd
    omega
  | succ d ih =>
    intro r hr H hZ hM hT hP hU hd
    obtain ⟨m1, m2, m3, m4, m5, m6⟩ := hM
    have hw : 1 ≤ r 128 ∧ r 128 ≤ 16 := xbd_s H (e := .var 128) (lo := 1) (hi := 16) (by decide +kernel)
    have hu : 0 ≤ r 1048960 ∧ r 1048960 ≤ 15 := xbd_s H (e := .var 1048960) (lo := 0) (hi := 15) (by decide +kernel)
    have hf : 0 ≤ r 1048704 ∧ r 1048704 ≤ 7 := xbd_s H (e := .var 1048704) (lo := 0) (hi := 7) (by decide +kernel)
    by_cases hup : r 1048960 = (p : Int)
    · have es : r (4194310 + 64 * (r 1048960).toNat) = S p := by
        have e0 : (r 1048960).toNat = p := by omega
        rw [e0]
        exact m4 p hp
      have j1 := m6.1 p hp
      have e : S p = -1 := by omega
      skip
      have hv := yb48w_t (q := 7) hy e
      have hv2 := yb48a_n hv (by omega) (by decide)
      have H1 := xHc (e := .sub (.var 128) (.var 1048960)) (lo := 1) (hi := 16) H (show (1 : Int) ≤ (r 128 - r 1048960) by omega) (show (r 128 - r 1048960) ≤ (16 : Int) by omega)
      have H2 := xHc (e := .sub (.var 1048960) (.var 1049024)) (lo := 0) (hi := 0) H1 (show (0 : Int) ≤ (r 1048960 - r 1049024) by omega) (show (r 1048960 - r 1049024) ≤ (0 : Int) by omega)
      have H3 := xHc (e := .pow (.sub (.num 4194310) (.var 1048960)) 0) (lo := -1) (hi := -1) H2 (show (-1 : Int) ≤ r (4194310 + 64 * (r 1048960).toNat) by omega) (show r (4194310 + 64 * (r 1048960).toNat) ≤ (-1 : Int) by omega)
      refine yz_run hL yq48_W8t hr H3 (xcut_s fun c hc r2 G2 hR => ?_)
      have hr2 : yzr L xs r2 := fun i hi => by rw [hR.2.2.2 i hi]; exact hr i hi
      have aw : r2 128 = w := (hR.2.2.2 128 (by decide)).trans m1
      simp only [List.mem_cons, List.not_mem_nil, or_false] at hc
      rcases hc with rfl | rfl
      · have a1048577 : r2 1048577 = r 1048577 := yas hR List.mem_cons_self
        have a1048640 : r2 1048640 = r 1048640 := yas hR (List.mem_cons_of_mem _ List.mem_cons_self)
        have a1048704 : r2 1048704 = r 1048704 := yas hR (List.mem_cons_of_mem _ (List.mem_cons_of_mem _ List.mem_cons_self))
        have fS : ∀ j : Nat, j < 16 → r2 (4194310 + 64 * j) = (bif decide (r 1048960 = (j : Int)) then ((0, 0) : ycV) else (0, r (4194310 + 64 * j))).2 := fun j hj => hR.2.1 _ List.mem_cons_self (4194310, 16, 217) List.mem_cons_self rfl j hj
        have fD : ∀ j : Nat, j < 8 → r2 (4195394 + 64 * j) = r (4195394 + 64 * j) := fun j hj => hR.2.1 _ (List.mem_cons_of_mem _ List.mem_cons_self) (4195394, 8, 207) (List.mem_cons_of_mem _ List.mem_cons_self) rfl j hj
        exact hC1 r2 w x f (yb48u S p (8 - ((7 + 1 : Nat) : Int))) D hr2 G2 trivial ⟨aw, a1048577.trans m2, a1048704.trans m3, fun k hk => yb48_fu (fS k (by omega)) hup (by decide) (m4 k hk), fun s hs => (fD s (by omega)).trans (m5 s hs), yb48J_take m6 hp (by decide)⟩ (by omega) hv2
      · have a1048640 : r2 1048640 = r 1048640 := yas hR List.mem_cons_self
        have a1048704 : r2 1048704 = r 1048704 := yas hR (List.mem_cons_of_mem _ List.mem_cons_self)
        have fS : ∀ j : Nat, j < 16 → r2 (4194310 + 64 * j) = (bif decide (r 1048960 = (j : Int)) then ((0, 0) : ycV) else (0, r (4194310 + 64 * j))).2 := fun j hj => hR.2.1 _ List.mem_cons_self (4194310, 16, 217) List.mem_cons_self rfl j hj
        have fD : ∀ j : Nat, j < 8 → r2 (4195394 + 64 * j) = r (4195394 + 64 * j) := fun j hj => hR.2.1 _ (List.mem_cons_of_mem _ List.mem_cons_self) (4195394, 8, 207) (List.mem_cons_of_mem _ List.mem_cons_self) rfl j hj
        have t0 : (20000 : Int) ≤ r 1048640 ∧ r 1048640 ≤ (20000 : Int) := hR.2.2.1 _ List.mem_cons_self
        have hn : n = 0 := by omega
        subst hn
        exact hE3 (yb48_0 hv2) r2 hr2 G2 trivial
    · have H1 := xHc (e := .sub (.var 128) (.var 1048960)) (lo := 1) (hi := 16) H (show (1 : Int) ≤ (r 128 - r 1048960) by omega) (show (r 128 - r 1048960) ≤ (16 : Int) by omega)
      have H2 := xHc (e := .sub (.var 1048960) (.var 1049024)) (lo := -15) (hi := -1) H1 (show (-15 : Int) ≤ (r 1048960 - r 1049024) by omega) (show (r 1048960 - r 1049024) ≤ (-1 : Int) by omega)
      refine yz_run hL yq48_W8n hr H2 (xcut_s fun c hc r2 G2 hR => ?_)
      have hr2 : yzr L xs r2 := fun i hi => by rw [hR.2.2.2 i hi]; exact hr i hi
      have aw : r2 128 = w := (hR.2.2.2 128 (by decide)).trans m1
      rw [List.mem_singleton] at hc
      subst hc
      have a1048577 : r2 1048577 = r 1048577 := yas hR List.mem_cons_self
      have a1049024 : r2 1049024 = r 1049024 := yas hR (List.mem_cons_of_mem _ List.mem_cons_self)
      have a1048960 : r2 1048960 = (r 1048960 + (1 : Int)) := yas hR (List.mem_cons_of_mem _ (List.mem_cons_of_mem _ List.mem_cons_self))
      have a1048640 : r2 1048640 = r 1048640 := yas hR (List.mem_cons_of_mem _ (List.mem_cons_of_mem _ (List.mem_cons_of_mem _ List.mem_cons_self)))
      have a1048704 : r2 1048704 = r 1048704 := yas hR (List.mem_cons_of_mem _ (List.mem_cons_of_mem _ (List.mem_cons_of_mem _ (List.mem_cons_of_mem _ List.mem_cons_self))))
      have fS : ∀ j : Nat, j < 16 → r2 (4194310 + 64 * j) = r (4194310 + 64 * j) := fun j hj => hR.2.1 _ List.mem_cons_self (4194310, 16, 217) List.mem_cons_self rfl j hj
      have fD : ∀ j : Nat, j < 8 → r2 (4195394 + 64 * j) = r (4195394 + 64 * j) := fun j hj => hR.2.1 _ (List.mem_cons_of_mem _ List.mem_cons_self) (4195394, 8, 207) (List.mem_cons_of_mem _ List.mem_cons_self) rfl j hj
      exact ih r2 hr2 G2 trivial ⟨aw, a1048577.trans m2, a1048704.trans m3, fun k hk => (fS k (by omega)).trans (m4 k hk), fun s hs => (fD s (by omega)).trans (m5 s hs), m6⟩ (by omega) (by omega) (by omega) (by omega)
theorem y48_K {L : Nat} {xs : Nat → Int32} (hL : L ≤ 3584) {y0 : Int} {n : Nat} (hC : yb48C L xs yZ0 y0 yt48_C0 yF48_C0 n 0) (hE2 : yb48E L xs yZ0 y0 (-2) yt48_E2 yF48_E2) (hE3 : yb48E L xs yZ0 y0 (-3) yt48_E3 yF48_E3) : yb48K L xs yZ0 y0 yt48_K yF48_K n := by
  intro r w x f S D hr H hZ hM hT hS hy
  suffices main : ∀ d : Nat, ∀ r, yzr L xs r → xH r yF48_K → yZ0 r → yb48M r w 0 x f S D → r 1048640 + (n : Int) = 20000 → (∀ j : Nat, (j : Int) < r 1048960 → S j = -1) → r 128 - r 1048960 < (d : Int) → xGl (yfT (ykold L xs)) r yzP yt48_K from
    main 17 r hr H hZ hM hT hS (by
      have ha : 0 ≤ r 128 - r 1048960 ∧ r 128 - r 1048960 ≤ 16 := xbd_s H (e := .sub (.var 128) (.var 1048960)) (lo := 0) (hi := 16) (by decide +kernel)
      omega)
  intro d
  induction d with
  | zero =>
    intro r hr H hZ hM hT hS hd
    have ha : 0 ≤ r 128 - r 1048960 ∧ r 128 - r 1048960 ≤ 16 := xbd_s H (e := .sub (.var 128) (.var 1048960)) (lo := 0) (hi := 16) (by decide +kernel)
    omega
  | succ d ih =>
    intro r hr H hZ hM hT hS hd
    have ha : 0 ≤ r 128 - r 1048960 ∧ r 128 - r 1048960 ≤ 16 := xbd_s H (e := .sub (.var 128) (.var 1048960)) (lo := 0) (hi := 16) (by decide +kernel)
    obtain ⟨m1, m2, m3, m4, m5, m6⟩ := hM
    have hw : 1 ≤ r 128 ∧ r 128 ≤ 16 := xbd_s H (e := .var 128) (lo := 1) (hi := 16) (by decide +kernel)
    have hu : 0 ≤ r 1048960 ∧ r 1048960 ≤ 16 := xbd_s H (e := .var 1048960) (lo := 0) (hi := 16) (by decide +kernel)
    have hf : 0 ≤ r 1048704 ∧ r 1048704 ≤ 7 := xbd_s H (e := .var 1048704) (lo := 0) (hi := 7) (by decide +kernel)
    by_cases hue : r 1048960 = r 128
    · have H1 := xHc (e := .sub (.var 128) (.var 1048960)) (lo := 0) (hi := 0) H (show (0 : Int) ≤ (r 128 - r 1048960) by omega) (show (r 128 - r 1048960) ≤ (0 : Int) by omega)
      refine yz_run hL yq48_Kx hr H1 (xcut_s fun c hc r2 G2 hR => ?_)
      have hr2 : yzr L xs r2 := fun i hi => by rw [hR.2.2.2 i hi]; exact hr i hi
      have aw : r2 128 = w := (hR.2.2.2 128 (by decide)).trans m1
      rw [List.mem_singleton] at hc
      subst hc
      have a1048640 : r2 1048640 = r 1048640 := yas hR List.mem_cons_self
      have a1048704 : r2 1048704 = r 1048704 := yas hR (List.mem_cons_of_mem _ List.mem_cons_self)
      have fS : ∀ j : Nat, j < 16 → r2 (4194310 + 64 * j) = r (4194310 + 64 * j) := fun j hj => hR.2.1 _ List.mem_cons_self (4194310, 16, 217) List.mem_cons_self rfl j hj
      have fD : ∀ j : Nat, j < 8 → r2 (4195394 + 64 * j) = r (4195394 + 64 * j) := fun j hj => hR.2.1 _ (List.mem_cons_of_mem _ List.mem_cons_self) (4195394, 8, 207) (List.mem_cons_of_mem _ List.mem_cons_self) rfl j hj
      exact hE2 (yb48a_s hy (by omega) ⟨rfl, fun p hp => hS p (by omega)⟩) r2 hr2 G2 trivial
    · have es : r (4194310 + 64 * (r 1048960).toNat) = S (r 1048960).toNat := m4 _ (by omega)
      have j1 := m6.1 (r 1048960).toNat (by omega)
      by_cases e : S (r 1048960).toNat = -1
      · have H1 := xHc (e := .sub (.var 128) (.var 1048960)) (lo := 1) (hi := 16) H (show (1 : Int) ≤ (r 128 - r 1048960) by omega) (show (r 128 - r 1048960) ≤ (16 : Int) by omega)
        have H2 := xHc (e := .pow (.sub (.num 4194310) (.var 1048960)) 0) (lo := -1) (hi := -1) H1 (show (-1 : Int) ≤ r (4194310 + 64 * (r 1048960).toNat) by omega) (show r (4194310 + 64 * (r 1048960).toNat) ≤ (-1 : Int) by omega)
        refine yz_run hL yq48_Kn hr H2 (xcut_s fun c hc r2 G2 hR => ?_)
        have hr2 : yzr L xs r2 := fun i hi => by rw [hR.2.2.2 i hi]; exact hr i hi
        have aw : r2 128 = w := (hR.2.2.2 128 (by decide)).trans m1
        rw [List.mem_singleton] at hc
        subst hc
        have a1048577 : r2 1048577 = r 1048577 := yas hR List.mem_cons_self
        have a1048960 : r2 1048960 = (r 1048960 + (1 : Int)) := yas hR (List.mem_cons_of_mem _ List.mem_cons_self)
        have a1048640 : r2 1048640 = r 1048640 := yas hR (List.mem_cons_of_mem _ (List.mem_cons_of_mem _ List.mem_cons_self))
        have a1048704 : r2 1048704 = r 1048704 := yas hR (List.mem_cons_of_mem _ (List.mem_cons_of_mem _ (List.mem_cons_of_mem _ List.mem_cons_self)))
        have fS : ∀ j : Nat, j < 16 → r2 (4194310 + 64 * j) = r (4194310 + 64 * j) := fun j hj => hR.2.1 _ List.mem_cons_self (4194310, 16, 217) List.mem_cons_self rfl j hj
        have fD : ∀ j : Nat, j < 8 → r2 (4195394 + 64 * j) = r (4195394 + 64 * j) := fun j hj => hR.2.1 _ (List.mem_cons_of_mem _ List.mem_cons_self) (4195394, 8, 207) (List.mem_cons_of_mem _ List.mem_cons_self) rfl j hj
        exact ih r2 hr2 G2 trivial ⟨aw, a1048577.trans m2, a1048704.trans m3, fun k hk => (fS k (by omega)).trans (m4 k hk), fun s hs => (fD s (by omega)).trans (m5 s hs), m6⟩ (by omega) (fun j hj => by
          by_cases h : (j : Int) < r 1048960
          · exact hS j h
          · have h2 : j = (r 1048960).toNat := by omega
            rw [h2]
            exact e) (by omega)
      · have hv2 := yb48a_m hy (by omega) (fun hk => e (hk.2 _ (by omega)))
        have H1 := xHc (e := .sub (.var 128) (.var 1048960)) (lo := 1) (hi := 16) H (show (1 : Int) ≤ (r 128 - r 1048960) by omega) (show (r 128 - r 1048960) ≤ (16 : Int) by omega)
        have H2 := xHc (e := .pow (.sub (.num 4194310) (.var 1048960)) 0) (lo := 0) (hi := 7) H1 (show (0 : Int) ≤ r (4194310 + 64 * (r 1048960).toNat) by omega) (show r (4194310 + 64 * (r 1048960).toNat) ≤ (7 : Int) by omega)
        refine yz_run hL yq48_Kg hr H2 (xcut_s fun c hc r2 G2 hR => ?_)
        have hr2 : yzr L xs r2 := fun i hi => by rw [hR.2.2.2 i hi]; exact hr i hi
        have aw : r2 128 = w := (hR.2.2.2 128 (by decide)).trans m1
        simp only [List.mem_cons, List.not_mem_nil, or_false] at hc
        rcases hc with rfl | rfl
        · have a1048577 : r2 1048577 = r 1048577 := yas hR List.mem_cons_self
          have a1048640 : r2 1048640 = r 1048640 := yas hR (List.mem_cons_of_mem _ List.mem_cons_self)
          have a1048704 : r2 1048704 = r 1048704 := yas hR (List.mem_cons_of_mem _ (List.mem_cons_of_mem _ List.mem_cons_self))
          have fS : ∀ j : Nat, j < 16 → r2 (4194310 + 64 * j) = r (4194310 + 64 * j) := fun j hj => hR.2.1 _ List.mem_cons_self (4194310, 16, 217) List.mem_cons_self rfl j hj
          have fD : ∀ j : Nat, j < 8 → r2 (4195394 + 64 * j) = r (4195394 + 64 * j) := fun j hj => hR.2.1 _ (List.mem_cons_of_mem _ List.mem_cons_self) (4195394, 8, 207) (List.mem_cons_of_mem _ List.mem_cons_self) rfl j hj
          exact hC r2 w x f S D hr2 G2 trivial ⟨aw, a1048577.trans m2, a1048704.trans m3, fun k hk => (fS k (by omega)).trans (m4 k hk), fun s hs => (fD s (by omega)).trans (m5 s hs), m6⟩ (by omega) hv2
        · have a1048640 : r2 1048640 = r 1048640 := yas hR List.mem_cons_self
          have a1048704 : r2 1048704 = r 1048704 := yas hR (List.mem_cons_of_mem _ List.mem_cons_self)
          have fS : ∀ j : Nat, j < 16 → r2 (4194310 + 64 * j) = r (4194310 + 64 * j) := fun j hj => hR.2.1 _ List.mem_cons_self (4194310, 16, 217) List.mem_cons_self rfl j hj
          have fD : ∀ j : Nat, j < 8 → r2 (4195394 + 64 * j) = r (4195394 + 64 * j) := fun j hj => hR.2.1 _ (List.mem_cons_of_mem _ List.mem_cons_self) (4195394, 8, 207) (List.mem_cons_of_mem _ List.mem_cons_self) rfl j hj
          have t0 : (20000 : Int) ≤ r 1048640 ∧ r 1048640 ≤ (20000 : Int) := hR.2.2.1 _ List.mem_cons_self
          have hn : n = 0 := by omega
          subst hn
          exact hE3 (yb48_0 hv2) r2 hr2 G2 trivial
theorem y48_allC {L : Nat} {xs : Nat → Int32} (hL : L ≤ 3584) {y0 : Int} (hE0 : yb48E L xs yZ0 y0 (0) yt48_E0 yF48_E0) (hE2 : yb48E L xs yZ0 y0 (-2) yt48_E2 yF48_E2) (hE3 : yb48E L xs yZ0 y0 (-3) yt48_E3 yF48_E3) : ∀ n : Nat, yb48C L xs yZ0 y0 yt48_C0 yF48_C0 n 0 ∧ yb48C L xs yZ0 y0 yt48_C1 yF48_C1 n 1 ∧ yb48C L xs yZ0 y0 yt48_C2 yF48_C2 n 2 ∧ yb48C L xs yZ0 y0 yt48_C3 yF48_C3 n 3 ∧ yb48C L xs yZ0 y0 yt48_C4 yF48_C4 n 4 ∧ yb48C L xs yZ0 y0 yt48_C5 yF48_C5 n 5 ∧ yb48C L xs yZ0 y0 yt48_C6 yF48_C6 n 6 ∧ yb48C L xs yZ0 y0 yt48_C7 yF48_C7 n 7 ∧ yb48C L xs yZ0 y0 yt48_C8 yF48_C8 n 8 := by
  intro n
  induction n with
  | zero => exact ⟨yb48_z (by decide +kernel), yb48_z (by decide +kernel), yb48_z (by decide +kernel), yb48_z (by decide +kernel), yb48_z (by decide +kernel), yb48_z (by decide +kernel), yb48_z (by decide +kernel), yb48_z (by decide +kernel), yb48_z (by decide +kernel)⟩
  | succ n ih =>
    obtain ⟨c0, c1, c2, c3, c4, c5, c6, c7, c8⟩ := ih
    have k := y48_K hL c0 hE2 hE3
    have w0 := y48_W0 hL k hE0 hE3
    have w1 := y48_W1 hL c1 k hE0 hE3
    have w2 := y48_W2 hL c2 c1 hE0 hE3
    have w3 := y48_W3 hL c3 c2 hE0 hE3
    have w4 := y48_W4 hL c4 c3 hE0 hE3
    have w5 := y48_W5 hL c5 c4 hE0 hE3
    have w6 := y48_W6 hL c6 c5 hE0 hE3
    have w7 := y48_W7 hL c7 c6 hE0 hE3
    have w8 := y48_W8 hL c8 c7 hE0 hE3
    exact ⟨y48_C0 hL w0, y48_C1 hL w1, y48_C2 hL w2, y48_C3 hL w3, y48_C4 hL w4, y48_C5 hL w5, y48_C6 hL w6, y48_C7 hL w7, y48_C8 hL w8⟩
theorem y48_R0 {L : Nat} {xs : Nat → Int32} (hL : L ≤ 3584) {y0 : Int} {n : Nat} (hW : yb48V L xs (yZ1 y0) y0 yt48_V0 yF48_V0 n 0) : yb48C L xs (yZ1 y0) y0 yt48_R0 yF48_R0 (n + 1) 0 := by
  intro r w x f S D hr H hZ hM hT hy
  obtain ⟨m1, m2, m3, m4, m5, m6⟩ := hM
  have hw : 1 ≤ r 128 ∧ r 128 ≤ 16 := xbd_s H (e := .var 128) (lo := 1) (hi := 16) (by decide +kernel)
  have hw2 : 1 ≤ w ∧ w ≤ 16 := by omega
  have H1 := xHc (e := .sub (.var 128) (.pow (.add (.pow (.add (.pow (.add (.pow (.add (.var 1048577) (.num 6364136223846793005)) 38) (.num 1442695040888963407)) 36) (.num 33)) 51) (.var 128)) 40)) (lo := 1) (hi := 16) H (by rw [xden_sub, xden_var, yb48P_d, m1, m2]; exact (yb48_w1 (yb48P_r hw2.1 hw2.2) hw2.2).1) (by rw [xden_sub, xden_var, yb48P_d, m1, m2]; exact (yb48_w1 (yb48P_r hw2.1 hw2.2) hw2.2).2)
  refine yz_run hL yq48_R0 hr H1 (xcut_s fun c hc r2 G2 hR => ?_)
  have hr2 : yzr L xs r2 := fun i hi => by rw [hR.2.2.2 i hi]; exact hr i hi
  have aw : r2 128 = w := (hR.2.2.2 128 (by decide)).trans m1
  rw [List.mem_singleton] at hc
  subst hc
  have a1048960 : r2 1048960 = (0 : Int) := yas hR (List.mem_cons_of_mem _ (List.mem_cons_of_mem _ List.mem_cons_self))
  have a1048640 : r2 1048640 = r 1048640 := yas hR (List.mem_cons_of_mem _ (List.mem_cons_of_mem _ (List.mem_cons_of_mem _ List.mem_cons_self)))
  have a1048704 : r2 1048704 = r 1048704 := yas hR (List.mem_cons_of_mem _ (List.mem_cons_of_mem _ (List.mem_cons_of_mem _ (List.mem_cons_of_mem _ List.mem_cons_self))))
  have a1049153 : r2 1049153 = r 1049153 := yas hR (List.mem_cons_of_mem _ (List.mem_cons_of_mem _ (List.mem_cons_of_mem _ (List.mem_cons_of_mem _ (List.mem_cons_of_mem _ List.mem_cons_self)))))
  have fS : ∀ j : Nat, j < 16 → r2 (4194310 + 64 * j) = r (4194310 + 64 * j) := fun j hj => hR.2.1 _ List.mem_cons_self (4194310, 16, 506) List.mem_cons_self rfl j hj
  have fD : ∀ j : Nat, j < 16 → r2 (4195394 + 64 * j) = r (4195394 + 64 * j) := fun j hj => hR.2.1 _ (List.mem_cons_of_mem _ List.mem_cons_self) (4195394, 16, 505) (List.mem_cons_of_mem _ List.mem_cons_self) rfl j hj
  have o1 := hT
  have gS : ∀ k : Nat, (k : Int) < w → r2 (4194310 + 64 * k) = S k := fun k hk => (fS k (by omega)).trans (m4 k hk)
  have gD : ∀ s : Nat, s < 8 → r2 (4195394 + 64 * s) = D s := fun s hs => (fD s (by omega)).trans (m5 s hs)
  have gT : r2 1048640 + (n : Int) + 1 = 20000 := by omega
  have a1048577 : r2 1048577 = yb48X (r 1048577) := (yas hR List.mem_cons_self).trans (yb48X_d r)
  have a1049024 : r2 1049024 = yb48P (r 128) (r 1048577) := (yas hR (List.mem_cons_of_mem _ List.mem_cons_self)).trans (yb48P_d r)
  exact hW r2 w (yb48X x) f S D (yb48P w x).toNat hr2 G2 (a1049153.trans hZ) ⟨aw, by rw [a1048577, m2], a1048704.trans m3, gS, gD, m6⟩ gT (yb48_w2 (yb48P_r hw2.1 hw2.2)) (by rw [a1049024, a1048960, m1, m2]; exact yb48_w4 (yb48P_r hw2.1 hw2.2)) (yb48_t hy)
theorem y48_V0 {L : Nat} {xs : Nat → Int32} (hL : L ≤ 3584) {y0 : Int} {n : Nat} (hK : yb48K L xs (yZ1 y0) y0 yt48_RK yF48_RK n) (hE0 : yb48E L xs (yZ1 y0) y0 (0) yt48_X0 yF48_X0) (hE3 : yb48E L xs (yZ1 y0) y0 (-3) yt48_X3 yF48_X3) : yb48V L xs (yZ1 y0) y0 yt48_V0 yF48_V0 n 0 := by
  intro r w x f S D p hr H hZ hM hT hp hP hy
  suffices main : ∀ d : Nat, ∀ r, yzr L xs r → xH r yF48_V0 → (yZ1 y0) r → yb48M r w 0 x f S D → r 1048640 + (n : Int) + 1 = 20000 → r 1049024 + r 1048960 = (p : Int) → r 1049024 < (d : Int) → xGl (yfT (ykold L xs)) r yzP yt48_V0 from
    main 16 r hr H hZ hM hT hP (by
      have hPb : 0 ≤ r 1049024 ∧ r 1049024 ≤ 15 := xbd_s H (e := .var 1049024) (lo := 0) (hi := 15) (by decide +kernel)
      omega)
  intro d
  induction d with
  | zero =>
    intro r hr H hZ hM hT hP hd
    have hPb : 0 ≤ r 1049024 ∧ r 1049024 ≤ 15 := xbd_s H (e := .var 1049024) (lo := 0) (hi := 15) (by decide +kernel)
    omega
  | succ d ih =>
    intro r hr H hZ hM hT hP hd
    have hPb : 0 ≤ r 1049024 ∧ r 1049024 ≤ 15 := xbd_s H (e := .var 1049024) (lo := 0) (hi := 15) (by decide +kernel)
    obtain ⟨m1, m2, m3, m4, m5, m6⟩ := hM
    have hw : 1 ≤ r 128 ∧ r 128 ≤ 16 := xbd_s H (e := .var 128) (lo := 1) (hi := 16) (by decide +kernel)
    have hu : 0 ≤ r 1048960 ∧ r 1048960 ≤ 15 := xbd_s H (e := .var 1048960) (lo := 0) (hi := 15) (by decide +kernel)
    have hf : 0 ≤ r 1048704 ∧ r 1048704 ≤ 7 := xbd_s H (e := .var 1048704) (lo := 0) (hi := 7) (by decide +kernel)
    by_cases hup0 : r 1049024 = 0
    · have hup : r 1048960 = (p : Int) := by omega
      have es : r (4194310 + 64 * (r 1048960).toNat) = S p := by
        have e0 : (r 1048960).toNat = p := by omega
        rw [e0]
        exact m4 p hp
      have j1 := m6.1 p hp
      have e : S p = -1 ∨ S p = 0 ∨ S p = 1 ∨ S p = 2 ∨ S p = 3 ∨ S p = 4 ∨ S p = 5 ∨ S p = 6 ∨ S p = 7 := by omega
      rcases e with e | e | e | e | e | e | e | e | e
      · have hv := yb48w_z hy e
        have H1 := xHc (e := .sub (.var 128) (.var 1048960)) (lo := 1) (hi := 16) H (show (1 : Int) ≤ (r 128 - r 1048960) by omega) (show (r 128 - r 1048960) ≤ (16 : Int) by omega)
        have H2 := xHc (e := .var 1049024) (lo := 0) (hi := 0) H1 (show (0 : Int) ≤ r 1049024 by omega) (show r 1049024 ≤ (0 : Int) by omega)
        have H3 := xHc (e := .pow (.sub (.num 4194310) (.var 1048960)) 0) (lo := -1) (hi := -1) H2 (show (-1 : Int) ≤ r (4194310 + 64 * (r 1048960).toNat) by omega) (show r (4194310 + 64 * (r 1048960).toNat) ≤ (-1 : Int) by omega)
        refine yz_run hL yq48_V0t hr H3 (xcut_s fun c hc r2 G2 hR => ?_)
        have hr2 : yzr L xs r2 := fun i hi => by rw [hR.2.2.2 i hi]; exact hr i hi
        have aw : r2 128 = w := (hR.2.2.2 128 (by decide)).trans m1
        rw [List.mem_singleton] at hc
        subst hc
        have a1048577 : r2 1048577 = r 1048577 := yas hR List.mem_cons_self
        have a1048960 : r2 1048960 = (0 : Int) := yas hR (List.mem_cons_of_mem _ List.mem_cons_self)
        have a1048640 : r2 1048640 = (r 1048640 + (1 : Int)) := yas hR (List.mem_cons_of_mem _ (List.mem_cons_of_mem _ List.mem_cons_self))
        have a1048704 : r2 1048704 = r 1048704 := yas hR (List.mem_cons_of_mem _ (List.mem_cons_of_mem _ (List.mem_cons_of_mem _ List.mem_cons_self)))
        have a1049153 : r2 1049153 = r 1049153 := yas hR (List.mem_cons_of_mem _ (List.mem_cons_of_mem _ (List.mem_cons_of_mem _ (List.mem_cons_of_mem _ List.mem_cons_self))))
        have fS : ∀ j : Nat, j < 16 → r2 (4194310 + 64 * j) = r (4194310 + 64 * j) := fun j hj => hR.2.1 _ List.mem_cons_self (4194310, 16, 506) List.mem_cons_self rfl j hj
        have fD : ∀ j : Nat, j < 16 → r2 (4195394 + 64 * j) = r (4195394 + 64 * j) := fun j hj => hR.2.1 _ (List.mem_cons_of_mem _ List.mem_cons_self) (4195394, 16, 505) (List.mem_cons_of_mem _ List.mem_cons_self) rfl j hj
        exact hK r2 w x f S D hr2 G2 (a1049153.trans hZ) ⟨aw, a1048577.trans m2, a1048704.trans m3, fun k hk => (fS k (by omega)).trans (m4 k hk), fun s hs => (fD s (by omega)).trans (m5 s hs), m6⟩ (by omega) (fun j hj => absurd hj (by omega)) hv
      · have hv := yb48w_s hy (by omega)
        have ed : r 4195394 = 0 := (m5 0 (by decide)).trans (by
          have z := m6.2.2.1 p hp (by omega)
          rw [e] at z
          exact z)
        have H1 := xHc (e := .sub (.var 128) (.var 1048960)) (lo := 1) (hi := 16) H (show (1 : Int) ≤ (r 128 - r 1048960) by omega) (show (r 128 - r 1048960) ≤ (16 : Int) by omega)
        have H2 := xHc (e := .var 1049024) (lo := 0) (hi := 0) H1 (show (0 : Int) ≤ r 1049024 by omega) (show r 1049024 ≤ (0 : Int) by omega)
        have H3 := xHc (e := .pow (.sub (.num 4194310) (.var 1048960)) 0) (lo := 0) (hi := 0) H2 (show (0 : Int) ≤ r (4194310 + 64 * (r 1048960).toNat) by omega) (show r (4194310 + 64 * (r 1048960).toNat) ≤ (0 : Int) by omega)
        have H4 := xHc (e := .var 4195394) (lo := 0) (hi := 0) H3 (show (0 : Int) ≤ r 4195394 by omega) (show r 4195394 ≤ (0 : Int) by omega)
        refine yz_run hL yq48_V0s0 hr H4 (xcut_s fun c hc r2 G2 hR => ?_)
        have hr2 : yzr L xs r2 := fun i hi => by rw [hR.2.2.2 i hi]; exact hr i hi
        have aw : r2 128 = w := (hR.2.2.2 128 (by decide)).trans m1
        simp only [List.mem_cons, List.not_mem_nil, or_false] at hc
        rcases hc with rfl | rfl
        · have a1048640 : r2 1048640 = (r 1048640 + (1 : Int)) := yas hR List.mem_cons_self
          have a1048704 : r2 1048704 = (r 1048704 + (1 : Int)) := yas hR (List.mem_cons_of_mem _ List.mem_cons_self)
          have a1049153 : r2 1049153 = r 1049153 := yas hR (List.mem_cons_of_mem _ (List.mem_cons_of_mem _ List.mem_cons_self))
          have fS : ∀ j : Nat, j < 16 → r2 (4194310 + 64 * j) = (bif decide (r 1048960 = (j : Int)) then ((0, -1) : ycV) else (0, r (4194310 + 64 * j))).2 := fun j hj => hR.2.1 _ List.mem_cons_self (4194310, 16, 506) List.mem_cons_self rfl j hj
          have fD : ∀ j : Nat, j < 16 → r2 (4195394 + 64 * j) = (xct r (.branch 0 (.branch 0 (.branch 0 (.branch 0 (.branch 0 (.leaf (0, .add (.var 4195394) (.num 1))) (.leaf (10, .num 4195394))) (.leaf (10, .num 4195394))) (.leaf (10, .num 4195394))) (.leaf (10, .num 4195394))) (.leaf (10, .num 4195394))) j).2 := fun j hj => hR.2.1 _ (List.mem_cons_of_mem _ List.mem_cons_self) (4195394, 16, 505) (List.mem_cons_of_mem _ List.mem_cons_self) rfl j hj
          have fD2 : ∀ s : Nat, s < 8 → s ≠ (S p).toNat → r2 (4195394 + 64 * s) = D s := fun s hs hn => ((fD s (by omega)).trans (yb48_d8 r s hs (by omega))).trans (m5 s hs)
          have t0 : (7 : Int) ≤ r 1048704 ∧ r 1048704 ≤ (7 : Int) := hR.2.2.1 _ List.mem_cons_self
          exact hE0 (yb48a_e hv (by omega)) r2 hr2 G2 (a1049153.trans hZ)
        · have a1048577 : r2 1048577 = r 1048577 := yas hR List.mem_cons_self
          have a1048960 : r2 1048960 = (0 : Int) := yas hR (List.mem_cons_of_mem _ List.mem_cons_self)
          have a1048640 : r2 1048640 = (r 1048640 + (1 : Int)) := yas hR (List.mem_cons_of_mem _ (List.mem_cons_of_mem _ List.mem_cons_self))
          have a1048704 : r2 1048704 = (r 1048704 + (1 : Int)) := yas hR (List.mem_cons_of_mem _ (List.mem_cons_of_mem _ (List.mem_cons_of_mem _ List.mem_cons_self)))
          have a1049153 : r2 1049153 = r 1049153 := yas hR (List.mem_cons_of_mem _ (List.mem_cons_of_mem _ (List.mem_cons_of_mem _ (List.mem_cons_of_mem _ List.mem_cons_self))))
          have fS : ∀ j : Nat, j < 16 → r2 (4194310 + 64 * j) = (bif decide (r 1048960 = (j : Int)) then ((0, -1) : ycV) else (0, r (4194310 + 64 * j))).2 := fun j hj => hR.2.1 _ List.mem_cons_self (4194310, 16, 506) List.mem_cons_self rfl j hj
          have fD : ∀ j : Nat, j < 16 → r2 (4195394 + 64 * j) = (xct r (.branch 0 (.branch 0 (.branch 0 (.branch 0 (.branch 0 (.leaf (0, .add (.var 4195394) (.num 1))) (.leaf (10, .num 4195394))) (.leaf (10, .num 4195394))) (.leaf (10, .num 4195394))) (.leaf (10, .num 4195394))) (.leaf (10, .num 4195394))) j).2 := fun j hj => hR.2.1 _ (List.mem_cons_of_mem _ List.mem_cons_self) (4195394, 16, 505) (List.mem_cons_of_mem _ List.mem_cons_self) rfl j hj
          have fD2 : ∀ s : Nat, s < 8 → s ≠ (S p).toNat → r2 (4195394 + 64 * s) = D s := fun s hs hn => ((fD s (by omega)).trans (yb48_d8 r s hs (by omega))).trans (m5 s hs)
          have t0 : (0 : Int) ≤ r 1048704 ∧ r 1048704 ≤ (6 : Int) := hR.2.2.1 _ List.mem_cons_self
          exact hK r2 w x (f + 1) (yb48u S p (-1)) (fun s => r2 (4195394 + 64 * s)) hr2 G2 (a1049153.trans hZ) ⟨aw, a1048577.trans m2, by omega, fun k hk => yb48_fu (fS k (by omega)) hup rfl (m4 k hk), fun _ _ => rfl, yb48J_step m6 hp (by omega) fD2 (by decide)⟩ (by omega) (fun j hj => absurd hj (by omega)) hv
      · have hv := yb48w_s hy (by omega)
        have ed : r 4195458 = 0 := (m5 1 (by decide)).trans (by
          have z := m6.2.2.1 p hp (by omega)
          rw [e] at z
          exact z)
        have H1 := xHc (e := .sub (.var 128) (.var 1048960)) (lo := 1) (hi := 16) H (show (1 : Int) ≤ (r 128 - r 1048960) by omega) (show (r 128 - r 1048960) ≤ (16 : Int) by omega)
        have H2 := xHc (e := .var 1049024) (lo := 0) (hi := 0) H1 (show (0 : Int) ≤ r 1049024 by omega) (show r 1049024 ≤ (0 : Int) by omega)
        have H3 := xHc (e := .pow (.sub (.num 4194310) (.var 1048960)) 0) (lo := 1) (hi := 1) H2 (show (1 : Int) ≤ r (4194310 + 64 * (r 1048960).toNat) by omega) (show r (4194310 + 64 * (r 1048960).toNat) ≤ (1 : Int) by omega)
        have H4 := xHc (e := .var 4195458) (lo := 0) (hi := 0) H3 (show (0 : Int) ≤ r 4195458 by omega) (show r 4195458 ≤ (0 : Int) by omega)
        refine yz_run hL yq48_V0s1 hr H4 (xcut_s fun c hc r2 G2 hR => ?_)
        have hr2 : yzr L xs r2 := fun i hi => by rw [hR.2.2.2 i hi]; exact hr i hi
        have aw : r2 128 = w := (hR.2.2.2 128 (by decide)).trans m1
        simp only [List.mem_cons, List.not_mem_nil, or_false] at hc
        rcases hc with rfl | rfl
        · have a1048640 : r2 1048640 = (r 1048640 + (1 : Int)) := yas hR List.mem_cons_self
          have a1048704 : r2 1048704 = (r 1048704 + (1 : Int)) := yas hR (List.mem_cons_of_mem _ List.mem_cons_self)
          have a1049153 : r2 1049153 = r 1049153 := yas hR (List.mem_cons_of_mem _ (List.mem_cons_of_mem _ List.mem_cons_self))
          have fS : ∀ j : Nat, j < 16 → r2 (4194310 + 64 * j) = (bif decide (r 1048960 = (j : Int)) then ((0, -1) : ycV) else (0, r (4194310 + 64 * j))).2 := fun j hj => hR.2.1 _ List.mem_cons_self (4194310, 16, 506) List.mem_cons_self rfl j hj
          have fD : ∀ j : Nat, j < 16 → r2 (4195394 + 64 * j) = (xct r (.branch 0 (.leaf (10, .num 4195394)) (.branch 0 (.branch 0 (.branch 0 (.branch 0 (.leaf (0, .add (.var 4195458) (.num 1))) (.leaf (10, .num 4195394))) (.leaf (10, .num 4195394))) (.leaf (10, .num 4195394))) (.leaf (10, .num 4195394)))) j).2 := fun j hj => hR.2.1 _ (List.mem_cons_of_mem _ List.mem_cons_self) (4195394, 16, 505) (List.mem_cons_of_mem _ List.mem_cons_self) rfl j hj
          have fD2 : ∀ s : Nat, s < 8 → s ≠ (S p).toNat → r2 (4195394 + 64 * s) = D s := fun s hs hn => ((fD s (by omega)).trans (yb48_d9 r s hs (by omega))).trans (m5 s hs)
          have t0 : (7 : Int) ≤ r 1048704 ∧ r 1048704 ≤ (7 : Int) := hR.2.2.1 _ List.mem_cons_self
          exact hE0 (yb48a_e hv (by omega)) r2 hr2 G2 (a1049153.trans hZ)
        · have a1048577 : r2 1048577 = r 1048577 := yas hR List.mem_cons_self
          have a1048960 : r2 1048960 = (0 : Int) := yas hR (List.mem_cons_of_mem _ List.mem_cons_self)
          have a1048640 : r2 1048640 = (r 1048640 + (1 : Int)) := yas hR (List.mem_cons_of_mem _ (List.mem_cons_of_mem _ List.mem_cons_self))
          have a1048704 : r2 1048704 = (r 1048704 + (1 : Int)) := yas hR (List.mem_cons_of_mem _ (List.mem_cons_of_mem _ (List.mem_cons_of_mem _ List.mem_cons_self)))
          have a1049153 : r2 1049153 = r 1049153 := yas hR (List.mem_cons_of_mem _ (List.mem_cons_of_mem _ (List.mem_cons_of_mem _ (List.mem_cons_of_mem _ List.mem_cons_self))))
          have fS : ∀ j : Nat, j < 16 → r2 (4194310 + 64 * j) = (bif decide (r 1048960 = (j : Int)) then ((0, -1) : ycV) else (0, r (4194310 + 64 * j))).2 := fun j hj => hR.2.1 _ List.mem_cons_self (4194310, 16, 506) List.mem_cons_self rfl j hj
          have fD : ∀ j : Nat, j < 16 → r2 (4195394 + 64 * j) = (xct r (.branch 0 (.leaf (10, .num 4195394)) (.branch 0 (.branch 0 (.branch 0 (.branch 0 (.leaf (0, .add (.var 4195458) (.num 1))) (.leaf (10, .num 4195394))) (.leaf (10, .num 4195394))) (.leaf (10, .num 4195394))) (.leaf (10, .num 4195394)))) j).2 := fun j hj => hR.2.1 _ (List.mem_cons_of_mem _ List.mem_cons_self) (4195394, 16, 505) (List.mem_cons_of_mem _ List.mem_cons_self) rfl j hj
          have fD2 : ∀ s : Nat, s < 8 → s ≠ (S p).toNat → r2 (4195394 + 64 * s) = D s := fun s hs hn => ((fD s (by omega)).trans (yb48_d9 r s hs (by omega))).trans (m5 s hs)
          have t0 : (0 : Int) ≤ r 1048704 ∧ r 1048704 ≤ (6 : Int) := hR.2.2.1 _ List.mem_cons_self
          exact hK r2 w x (f + 1) (yb48u S p (-1)) (fun s => r2 (4195394 + 64 * s)) hr2 G2 (a1049153.trans hZ) ⟨aw, a1048577.trans m2, by omega, fun k hk => yb48_fu (fS k (by omega)) hup rfl (m4 k hk), fun _ _ => rfl, yb48J_step m6 hp (by omega) fD2 (by decide)⟩ (by omega) (fun j hj => absurd hj (by omega)) hv
      · have hv := yb48w_s hy (by omega)
        have ed : r 4195522 = 0 := (m5 2 (by decide)).trans (by
          have z := m6.2.2.1 p hp (by omega)
          rw [e] at z
          exact z)
        have H1 := xHc (e := .sub (.var 128) (.var 1048960)) (lo := 1) (hi := 16) H (show (1 : Int) ≤ (r 128 - r 1048960) by omega) (show (r 128 - r 1048960) ≤ (16 : Int) by omega)
        have H2 := xHc (e := .var 1049024) (lo := 0) (hi := 0) H1 (show (0 : Int) ≤ r 1049024 by omega) (show r 1049024 ≤ (0 : Int) by omega)
        have H3 := xHc (e := .pow (.sub (.num 4194310) (.var 1048960)) 0) (lo := 2) (hi := 2) H2 (show (2 : Int) ≤ r (4194310 + 64 * (r 1048960).toNat) by omega) (show r (4194310 + 64 * (r 1048960).toNat) ≤ (2 : Int) by omega)
        have H4 := xHc (e := .var 4195522) (lo := 0) (hi := 0) H3 (show (0 : Int) ≤ r 4195522 by omega) (show r 4195522 ≤ (0 : Int) by omega)
        refine yz_run hL yq48_V0s2 hr H4 (xcut_s fun c hc r2 G2 hR => ?_)
        have hr2 : yzr L xs r2 := fun i hi => by rw [hR.2.2.2 i hi]; exact hr i hi
        have aw : r2 128 = w := (hR.2.2.2 128 (by decide)).trans m1
        simp only [List.mem_cons, List.not_mem_nil, or_false] at hc
        rcases hc with rfl | rfl
        · have a1048640 : r2 1048640 = (r 1048640 + (1 : Int)) := yas hR List.mem_cons_self
          have a1048704 : r2 1048704 = (r 1048704 + (1 : Int)) := yas hR (List.mem_cons_of_mem _ List.mem_cons_self)
          have a1049153 : r2 1049153 = r 1049153 := yas hR (List.mem_cons_of_mem _ (List.mem_cons_of_mem _ List.mem_cons_self))
          have fS : ∀ j : Nat, j < 16 → r2 (4194310 + 64 * j) = (bif decide (r 1048960 = (j : Int)) then ((0, -1) : ycV) else (0, r (4194310 + 64 * j))).2 := fun j hj => hR.2.1 _ List.mem_cons_self (4194310, 16, 506) List.mem_cons_self rfl j hj
          have fD : ∀ j : Nat, j < 16 → r2 (4195394 + 64 * j) = (xct r (.branch 0 (.branch 0 (.leaf (10, .num 4195394)) (.branch 0 (.branch 0 (.branch 0 (.leaf (0, .add (.var 4195522) (.num 1))) (.leaf (10, .num 4195394))) (.leaf (10, .num 4195394))) (.leaf (10, .num 4195394)))) (.leaf (10, .num 4195394))) j).2 := fun j hj => hR.2.1 _ (List.mem_cons_of_mem _ List.mem_cons_self) (4195394, 16, 505) (List.mem_cons_of_mem _ List.mem_cons_self) rfl j hj
          have fD2 : ∀ s : Nat, s < 8 → s ≠ (S p).toNat → r2 (4195394 + 64 * s) = D s := fun s hs hn => ((fD s (by omega)).trans (yb48_d10 r s hs (by omega))).trans (m5 s hs)
          have t0 : (7 : Int) ≤ r 1048704 ∧ r 1048704 ≤ (7 : Int) := hR.2.2.1 _ List.mem_cons_self
          exact hE0 (yb48a_e hv (by omega)) r2 hr2 G2 (a1049153.trans hZ)
        · have a1048577 : r2 1048577 = r 1048577 := yas hR List.mem_cons_self
          have a1048960 : r2 1048960 = (0 : Int) := yas hR (List.mem_cons_of_mem _ List.mem_cons_self)
          have a1048640 : r2 1048640 = (r 1048640 + (1 : Int)) := yas hR (List.mem_cons_of_mem _ (List.mem_cons_of_mem _ List.mem_cons_self))
          have a1048704 : r2 1048704 = (r 1048704 + (1 : Int)) := yas hR (List.mem_cons_of_mem _ (List.mem_cons_of_mem _ (List.mem_cons_of_mem _ List.mem_cons_self)))
          have a1049153 : r2 1049153 = r 1049153 := yas hR (List.mem_cons_of_mem _ (List.mem_cons_of_mem _ (List.mem_cons_of_mem _ (List.mem_cons_of_mem _ List.mem_cons_self))))
          have fS : ∀ j : Nat, j < 16 → r2 (4194310 + 64 * j) = (bif decide (r 1048960 = (j : Int)) then ((0, -1) : ycV) else (0, r (4194310 + 64 * j))).2 := fun j hj => hR.2.1 _ List.mem_cons_self (4194310, 16, 506) List.mem_cons_self rfl j hj
          have fD : ∀ j : Nat, j < 16 → r2 (4195394 + 64 * j) = (xct r (.branch 0 (.branch 0 (.leaf (10, .num 4195394)) (.branch 0 (.branch 0 (.branch 0 (.leaf (0, .add (.var 4195522) (.num 1))) (.leaf (10, .num 4195394))) (.leaf (10, .num 4195394))) (.leaf (10, .num 4195394)))) (.leaf (10, .num 4195394))) j).2 := fun j hj => hR.2.1 _ (List.mem_cons_of_mem _ List.mem_cons_self) (4195394, 16, 505) (List.mem_cons_of_mem _ List.mem_cons_self) rfl j hj
          have fD2 : ∀ s : Nat, s < 8 → s ≠ (S p).toNat → r2 (4195394 + 64 * s) = D s := fun s hs hn => ((fD s (by omega)).trans (yb48_d10 r s hs (by omega))).trans (m5 s hs)
          have t0 : (0 : Int) ≤ r 1048704 ∧ r 1048704 ≤ (6 : Int) := hR.2.2.1 _ List.mem_cons_self
          exact hK r2 w x (f + 1) (yb48u S p (-1)) (fun s => r2 (4195394 + 64 * s)) hr2 G2 (a1049153.trans hZ) ⟨aw, a1048577.trans m2, by omega, fun k hk => yb48_fu (fS k (by omega)) hup rfl (m4 k hk), fun _ _ => rfl, yb48J_step m6 hp (by omega) fD2 (by decide)⟩ (by omega) (fun j hj => absurd hj (by omega)) hv
      · have hv := yb48w_s hy (by omega)
        have ed : r 4195586 = 0 := (m5 3 (by decide)).trans (by
          have z := m6.2.2.1 p hp (by omega)
          rw [e] at z
          exact z)
        have H1 := xHc (e := .sub (.var 128) (.var 1048960)) (lo := 1) (hi := 16) H (show (1 : Int) ≤ (r 128 - r 1048960) by omega) (show (r 128 - r 1048960) ≤ (16 : Int) by omega)
        have H2 := xHc (e := .var 1049024) (lo := 0) (hi := 0) H1 (show (0 : Int) ≤ r 1049024 by omega) (show r 1049024 ≤ (0 : Int) by omega)
        have H3 := xHc (e := .pow (.sub (.num 4194310) (.var 1048960)) 0) (lo := 3) (hi := 3) H2 (show (3 : Int) ≤ r (4194310 + 64 * (r 1048960).toNat) by omega) (show r (4194310 + 64 * (r 1048960).toNat) ≤ (3 : Int) by omega)
        have H4 := xHc (e := .var 4195586) (lo := 0) (hi := 0) H3 (show (0 : Int) ≤ r 4195586 by omega) (show r 4195586 ≤ (0 : Int) by omega)
        refine yz_run hL yq48_V0s3 hr H4 (xcut_s fun c hc r2 G2 hR => ?_)
        have hr2 : yzr L xs r2 := fun i hi => by rw [hR.2.2.2 i hi]; exact hr i hi
        have aw : r2 128 = w := (hR.2.2.2 128 (by decide)).trans m1
        simp only [List.mem_cons, List.not_mem_nil, or_false] at hc
        rcases hc with rfl | rfl
        · have a1048640 : r2 1048640 = (r 1048640 + (1 : Int)) := yas hR List.mem_cons_self
          have a1048704 : r2 1048704 = (r 1048704 + (1 : Int)) := yas hR (List.mem_cons_of_mem _ List.mem_cons_self)
          have a1049153 : r2 1049153 = r 1049153 := yas hR (List.mem_cons_of_mem _ (List.mem_cons_of_mem _ List.mem_cons_self))
          have fS : ∀ j : Nat, j < 16 → r2 (4194310 + 64 * j) = (bif decide (r 1048960 = (j : Int)) then ((0, -1) : ycV) else (0, r (4194310 + 64 * j))).2 := fun j hj => hR.2.1 _ List.mem_cons_self (4194310, 16, 506) List.mem_cons_self rfl j hj
          have fD : ∀ j : Nat, j < 16 → r2 (4195394 + 64 * j) = (xct r (.branch 0 (.leaf (10, .num 4195394)) (.branch 0 (.leaf (10, .num 4195394)) (.branch 0 (.branch 0 (.branch 0 (.leaf (0, .add (.var 4195586) (.num 1))) (.leaf (10, .num 4195394))) (.leaf (10, .num 4195394))) (.leaf (10, .num 4195394))))) j).2 := fun j hj => hR.2.1 _ (List.mem_cons_of_mem _ List.mem_cons_self) (4195394, 16, 505) (List.mem_cons_of_mem _ List.mem_cons_self) rfl j hj
          have fD2 : ∀ s : Nat, s < 8 → s ≠ (S p).toNat → r2 (4195394 + 64 * s) = D s := fun s hs hn => ((fD s (by omega)).trans (yb48_d11 r s hs (by omega))).trans (m5 s hs)
          have t0 : (7 : Int) ≤ r 1048704 ∧ r 1048704 ≤ (7 : Int) := hR.2.2.1 _ List.mem_cons_self
          exact hE0 (yb48a_e hv (by omega)) r2 hr2 G2 (a1049153.trans hZ)
        · have a1048577 : r2 1048577 = r 1048577 := yas hR List.mem_cons_self
          have a1048960 : r2 1048960 = (0 : Int) := yas hR (List.mem_cons_of_mem _ List.mem_cons_self)
          have a1048640 : r2 1048640 = (r 1048640 + (1 : Int)) := yas hR (List.mem_cons_of_mem _ (List.mem_cons_of_mem _ List.mem_cons_self))
          have a1048704 : r2 1048704 = (r 1048704 + (1 : Int)) := yas hR (List.mem_cons_of_mem _ (List.mem_cons_of_mem _ (List.mem_cons_of_mem _ List.mem_cons_self)))
          have a1049153 : r2 1049153 = r 1049153 := yas hR (List.mem_cons_of_mem _ (List.mem_cons_of_mem _ (List.mem_cons_of_mem _ (List.mem_cons_of_mem _ List.mem_cons_self))))
          have fS : ∀ j : Nat, j < 16 → r2 (4194310 + 64 * j) = (bif decide (r 1048960 = (j : Int)) then ((0, -1) : ycV) else (0, r (4194310 + 64 * j))).2 := fun j hj => hR.2.1 _ List.mem_cons_self (4194310, 16, 506) List.mem_cons_self rfl j hj
          have fD : ∀ j : Nat, j < 16 → r2 (4195394 + 64 * j) = (xct r (.branch 0 (.leaf (10, .num 4195394)) (.branch 0 (.leaf (10, .num 4195394)) (.branch 0 (.branch 0 (.branch 0 (.leaf (0, .add (.var 4195586) (.num 1))) (.leaf (10, .num 4195394))) (.leaf (10, .num 4195394))) (.leaf (10, .num 4195394))))) j).2 := fun j hj => hR.2.1 _ (List.mem_cons_of_mem _ List.mem_cons_self) (4195394, 16, 505) (List.mem_cons_of_mem _ List.mem_cons_self) rfl j hj
          have fD2 : ∀ s : Nat, s < 8 → s ≠ (S p).toNat → r2 (4195394 + 64 * s) = D s := fun s hs hn => ((fD s (by omega)).trans (yb48_d11 r s hs (by omega))).trans (m5 s hs)
          have t0 : (0 : Int) ≤ r 1048704 ∧ r 1048704 ≤ (6 : Int) := hR.2.2.1 _ List.mem_cons_self
          exact hK r2 w x (f + 1) (yb48u S p (-1)) (fun s => r2 (4195394 + 64 * s)) hr2 G2 (a1049153.trans hZ) ⟨aw, a1048577.trans m2, by omega, fun k hk => yb48_fu (fS k (by omega)) hup rfl (m4 k hk), fun _ _ => rfl, yb48J_step m6 hp (by omega) fD2 (by decide)⟩ (by omega) (fun j hj => absurd hj (by omega)) hv
      · have hv := yb48w_s hy (by omega)
        have ed : r 4195650 = 0 := (m5 4 (by decide)).trans (by
          have z := m6.2.2.1 p hp (by omega)
          rw [e] at z
          exact z)
        have H1 := xHc (e := .sub (.var 128) (.var 1048960)) (lo := 1) (hi := 16) H (show (1 : Int) ≤ (r 128 - r 1048960) by omega) (show (r 128 - r 1048960) ≤ (16 : Int) by omega)
        have H2 := xHc (e := .var 1049024) (lo := 0) (hi := 0) H1 (show (0 : Int) ≤ r 1049024 by omega) (show r 1049024 ≤ (0 : Int) by omega)
        have H3 := xHc (e := .pow (.sub (.num 4194310) (.var 1048960)) 0) (lo := 4) (hi := 4) H2 (show (4 : Int) ≤ r (4194310 + 64 * (r 1048960).toNat) by omega) (show r (4194310 + 64 * (r 1048960).toNat) ≤ (4 : Int) by omega)
        have H4 := xHc (e := .var 4195650) (lo := 0) (hi := 0) H3 (show (0 : Int) ≤ r 4195650 by omega) (show r 4195650 ≤ (0 : Int) by omega)
        refine yz_run hL yq48_V0s4 hr H4 (xcut_s fun c hc r2 G2 hR => ?_)
        have hr2 : yzr L xs r2 := fun i hi => by rw [hR.2.2.2 i hi]; exact hr i hi
        have aw : r2 128 = w := (hR.2.2.2 128 (by decide)).trans m1
        simp only [List.mem_cons, List.not_mem_nil, or_false] at hc
        rcases hc with rfl | rfl
        · have a1048640 : r2 1048640 = (r 1048640 + (1 : Int)) := yas hR List.mem_cons_self
          have a1048704 : r2 1048704 = (r 1048704 + (1 : Int)) := yas hR (List.mem_cons_of_mem _ List.mem_cons_self)
          have a1049153 : r2 1049153 = r 1049153 := yas hR (List.mem_cons_of_mem _ (List.mem_cons_of_mem _ List.mem_cons_self))
          have fS : ∀ j : Nat, j < 16 → r2 (4194310 + 64 * j) = (bif decide (r 1048960 = (j : Int)) then ((0, -1) : ycV) else (0, r (4194310 + 64 * j))).2 := fun j hj => hR.2.1 _ List.mem_cons_self (4194310, 16, 506) List.mem_cons_self rfl j hj
          have fD : ∀ j : Nat, j < 16 → r2 (4195394 + 64 * j) = (xct r (.branch 0 (.branch 0 (.branch 0 (.leaf (10, .num 4195394)) (.branch 0 (.branch 0 (.leaf (0, .add (.var 4195650) (.num 1))) (.leaf (10, .num 4195394))) (.leaf (10, .num 4195394)))) (.leaf (10, .num 4195394))) (.leaf (10, .num 4195394))) j).2 := fun j hj => hR.2.1 _ (List.mem_cons_of_mem _ List.mem_cons_self) (4195394, 16, 505) (List.mem_cons_of_mem _ List.mem_cons_self) rfl j hj
          have fD2 : ∀ s : Nat, s < 8 → s ≠ (S p).toNat → r2 (4195394 + 64 * s) = D s := fun s hs hn => ((fD s (by omega)).trans (yb48_d12 r s hs (by omega))).trans (m5 s hs)
          have t0 : (7 : Int) ≤ r 1048704 ∧ r 1048704 ≤ (7 : Int) := hR.2.2.1 _ List.mem_cons_self
          exact hE0 (yb48a_e hv (by omega)) r2 hr2 G2 (a1049153.trans hZ)
        · have a1048577 : r2 1048577 = r 1048577 := yas hR List.mem_cons_self
          have a1048960 : r2 1048960 = (0 : Int) := yas hR (List.mem_cons_of_mem _ List.mem_cons_self)
          have a1048640 : r2 1048640 = (r 1048640 + (1 : Int)) := yas hR (List.mem_cons_of_mem _ (List.mem_cons_of_mem _ List.mem_cons_self))
          have a1048704 : r2 1048704 = (r 1048704 + (1 : Int)) := yas hR (List.mem_cons_of_mem _ (List.mem_cons_of_mem _ (List.mem_cons_of_mem _ List.mem_cons_self)))
          have a1049153 : r2 1049153 = r 1049153 := yas hR (List.mem_cons_of_mem _ (List.mem_cons_of_mem _ (List.mem_cons_of_mem _ (List.mem_cons_of_mem _ List.mem_cons_self))))
          have fS : ∀ j : Nat, j < 16 → r2 (4194310 + 64 * j) = (bif decide (r 1048960 = (j : Int)) then ((0, -1) : ycV) else (0, r (4194310 + 64 * j))).2 := fun j hj => hR.2.1 _ List.mem_cons_self (4194310, 16, 506) List.mem_cons_self rfl j hj
          have fD : ∀ j : Nat, j < 16 → r2 (4195394 + 64 * j) = (xct r (.branch 0 (.branch 0 (.branch 0 (.leaf (10, .num 4195394)) (.branch 0 (.branch 0 (.leaf (0, .add (.var 4195650) (.num 1))) (.leaf (10, .num 4195394))) (.leaf (10, .num 4195394)))) (.leaf (10, .num 4195394))) (.leaf (10, .num 4195394))) j).2 := fun j hj => hR.2.1 _ (List.mem_cons_of_mem _ List.mem_cons_self) (4195394, 16, 505) (List.mem_cons_of_mem _ List.mem_cons_self) rfl j hj
          have fD2 : ∀ s : Nat, s < 8 → s ≠ (S p).toNat → r2 (4195394 + 64 * s) = D s := fun s hs hn => ((fD s (by omega)).trans (yb48_d12 r s hs (by omega))).trans (m5 s hs)
          have t0 : (0 : Int) ≤ r 1048704 ∧ r 1048704 ≤ (6 : Int) := hR.2.2.1 _ List.mem_cons_self
          exact hK r2 w x (f + 1) (yb48u S p (-1)) (fun s => r2 (4195394 + 64 * s)) hr2 G2 (a1049153.trans hZ) ⟨aw, a1048577.trans m2, by omega, fun k hk => yb48_fu (fS k (by omega)) hup rfl (m4 k hk), fun _ _ => rfl, yb48J_step m6 hp (by omega) fD2 (by decide)⟩ (by omega) (fun j hj => absurd hj (by omega)) hv
      · have hv := yb48w_s hy (by omega)
        have ed : r 4195714 = 0 := (m5 5 (by decide)).trans (by
          have z := m6.2.2.1 p hp (by omega)
          rw [e] at z
          exact z)
        have H1 := xHc (e := .sub (.var 128) (.var 1048960)) (lo := 1) (hi := 16) H (show (1 : Int) ≤ (r 128 - r 1048960) by omega) (show (r 128 - r 1048960) ≤ (16 : Int) by omega)
        have H2 := xHc (e := .var 1049024) (lo := 0) (hi := 0) H1 (show (0 : Int) ≤ r 1049024 by omega) (show r 1049024 ≤ (0 : Int) by omega)
        have H3 := xHc (e := .pow (.sub (.num 4194310) (.var 1048960)) 0) (lo := 5) (hi := 5) H2 (show (5 : Int) ≤ r (4194310 + 64 * (r 1048960).toNat) by omega) (show r (4194310 + 64 * (r 1048960).toNat) ≤ (5 : Int) by omega)
        have H4 := xHc (e := .var 4195714) (lo := 0) (hi := 0) H3 (show (0 : Int) ≤ r 4195714 by omega) (show r 4195714 ≤ (0 : Int) by omega)
        refine yz_run hL yq48_V0s5 hr H4 (xcut_s fun c hc r2 G2 hR => ?_)
        have hr2 : yzr L xs r2 := fun i hi => by rw [hR.2.2.2 i hi]; exact hr i hi
        have aw : r2 128 = w := (hR.2.2.2 128 (by decide)).trans m1
        simp only [List.mem_cons, List.not_mem_nil, or_false] at hc
        rcases hc with rfl | rfl
        · have a1048640 : r2 1048640 = (r 1048640 + (1 : Int)) := yas hR List.mem_cons_self
          have a1048704 : r2 1048704 = (r 1048704 + (1 : Int)) := yas hR (List.mem_cons_of_mem _ List.mem_cons_self)
          have a1049153 : r2 1049153 = r 1049153 := yas hR (List.mem_cons_of_mem _ (List.mem_cons_of_mem _ List.mem_cons_self))
          have fS : ∀ j : Nat, j < 16 → r2 (4194310 + 64 * j) = (bif decide (r 1048960 = (j : Int)) then ((0, -1) : ycV) else (0, r (4194310 + 64 * j))).2 := fun j hj => hR.2.1 _ List.mem_cons_self (4194310, 16, 506) List.mem_cons_self rfl j hj
          have fD : ∀ j : Nat, j < 16 → r2 (4195394 + 64 * j) = (xct r (.branch 0 (.leaf (10, .num 4195394)) (.branch 0 (.branch 0 (.leaf (10, .num 4195394)) (.branch 0 (.branch 0 (.leaf (0, .add (.var 4195714) (.num 1))) (.leaf (10, .num 4195394))) (.leaf (10, .num 4195394)))) (.leaf (10, .num 4195394)))) j).2 := fun j hj => hR.2.1 _ (List.mem_cons_of_mem _ List.mem_cons_self) (4195394, 16, 505) (List.mem_cons_of_mem _ List.mem_cons_self) rfl j hj
          have fD2 : ∀ s : Nat, s < 8 → s ≠ (S p).toNat → r2 (4195394 + 64 * s) = D s := fun s hs hn => ((fD s (by omega)).trans (yb48_d13 r s hs (by omega))).trans (m5 s hs)
          have t0 : (7 : Int) ≤ r 1048704 ∧ r 1048704 ≤ (7 : Int) := hR.2.2.1 _ List.mem_cons_self
          exact hE0 (yb48a_e hv (by omega)) r2 hr2 G2 (a1049153.trans hZ)
        · have a1048577 : r2 1048577 = r 1048577 := yas hR List.mem_cons_self
          have a1048960 : r2 1048960 = (0 : Int) := yas hR (List.mem_cons_of_mem _ List.mem_cons_self)
          have a1048640 : r2 1048640 = (r 1048640 + (1 : Int)) := yas hR (List.mem_cons_of_mem _ (List.mem_cons_of_mem _ List.mem_cons_self))
          have a1048704 : r2 1048704 = (r 1048704 + (1 : Int)) := yas hR (List.mem_cons_of_mem _ (List.mem_cons_of_mem _ (List.mem_cons_of_mem _ List.mem_cons_self)))
          have a1049153 : r2 1049153 = r 1049153 := yas hR (List.mem_cons_of_mem _ (List.mem_cons_of_mem _ (List.mem_cons_of_mem _ (List.mem_cons_of_mem _ List.mem_cons_self))))
          have fS : ∀ j : Nat, j < 16 → r2 (4194310 + 64 * j) = (bif decide (r 1048960 = (j : Int)) then ((0, -1) : ycV) else (0, r (4194310 + 64 * j))).2 := fun j hj => hR.2.1 _ List.mem_cons_self (4194310, 16, 506) List.mem_cons_self rfl j hj
          have fD : ∀ j : Nat, j < 16 → r2 (4195394 + 64 * j) = (xct r (.branch 0 (.leaf (10, .num 4195394)) (.branch 0 (.branch 0 (.leaf (10, .num 4195394)) (.branch 0 (.branch 0 (.leaf (0, .add (.var 4195714) (.num 1))) (.leaf (10, .num 4195394))) (.leaf (10, .num 4195394)))) (.leaf (10, .num 4195394)))) j).2 := fun j hj => hR.2.1 _ (List.mem_cons_of_mem _ List.mem_cons_self) (4195394, 16, 505) (List.mem_cons_of_mem _ List.mem_cons_self) rfl j hj
          have fD2 : ∀ s : Nat, s < 8 → s ≠ (S p).toNat → r2 (4195394 + 64 * s) = D s := fun s hs hn => ((fD s (by omega)).trans (yb48_d13 r s hs (by omega))).trans (m5 s hs)
          have t0 : (0 : Int) ≤ r 1048704 ∧ r 1048704 ≤ (6 : Int) := hR.2.2.1 _ List.mem_cons_self
          exact hK r2 w x (f + 1) (yb48u S p (-1)) (fun s => r2 (4195394 + 64 * s)) hr2 G2 (a1049153.trans hZ) ⟨aw, a1048577.trans m2, by omega, fun k hk => yb48_fu (fS k (by omega)) hup rfl (m4 k hk), fun _ _ => rfl, yb48J_step m6 hp (by omega) fD2 (by decide)⟩ (by omega) (fun j hj => absurd hj (by omega)) hv
      · have hv := yb48w_s hy (by omega)
        have ed : r 4195778 = 0 := (m5 6 (by decide)).trans (by
          have z := m6.2.2.1 p hp (by omega)
          rw [e] at z
          exact z)
        have H1 := xHc (e := .sub (.var 128) (.var 1048960)) (lo := 1) (hi := 16) H (show (1 : Int) ≤ (r 128 - r 1048960) by omega) (show (r 128 - r 1048960) ≤ (16 : Int) by omega)
        have H2 := xHc (e := .var 1049024) (lo := 0) (hi := 0) H1 (show (0 : Int) ≤ r 1049024 by omega) (show r 1049024 ≤ (0 : Int) by omega)
        have H3 := xHc (e := .pow (.sub (.num 4194310) (.var 1048960)) 0) (lo := 6) (hi := 6) H2 (show (6 : Int) ≤ r (4194310 + 64 * (r 1048960).toNat) by omega) (show r (4194310 + 64 * (r 1048960).toNat) ≤ (6 : Int) by omega)
        have H4 := xHc (e := .var 4195778) (lo := 0) (hi := 0) H3 (show (0 : Int) ≤ r 4195778 by omega) (show r 4195778 ≤ (0 : Int) by omega)
        refine yz_run hL yq48_V0s6 hr H4 (xcut_s fun c hc r2 G2 hR => ?_)
        have hr2 : yzr L xs r2 := fun i hi => by rw [hR.2.2.2 i hi]; exact hr i hi
        have aw : r2 128 = w := (hR.2.2.2 128 (by decide)).trans m1
        simp only [List.mem_cons, List.not_mem_nil, or_false] at hc
        rcases hc with rfl | rfl
        · have a1048640 : r2 1048640 = (r 1048640 + (1 : Int)) := yas hR List.mem_cons_self
          have a1048704 : r2 1048704 = (r 1048704 + (1 : Int)) := yas hR (List.mem_cons_of_mem _ List.mem_cons_self)
          have a1049153 : r2 1049153 = r 1049153 := yas hR (List.mem_cons_of_mem _ (List.mem_cons_of_mem _ List.mem_cons_self))
          have fS : ∀ j : Nat, j < 16 → r2 (4194310 + 64 * j) = (bif decide (r 1048960 = (j : Int)) then ((0, -1) : ycV) else (0, r (4194310 + 64 * j))).2 := fun j hj => hR.2.1 _ List.mem_cons_self (4194310, 16, 506) List.mem_cons_self rfl j hj
          have fD : ∀ j : Nat, j < 16 → r2 (4195394 + 64 * j) = (xct r (.branch 0 (.branch 0 (.leaf (10, .num 4195394)) (.branch 0 (.leaf (10, .num 4195394)) (.branch 0 (.branch 0 (.leaf (0, .add (.var 4195778) (.num 1))) (.leaf (10, .num 4195394))) (.leaf (10, .num 4195394))))) (.leaf (10, .num 4195394))) j).2 := fun j hj => hR.2.1 _ (List.mem_cons_of_mem _ List.mem_cons_self) (4195394, 16, 505) (List.mem_cons_of_mem _ List.mem_cons_self) rfl j hj
          have fD2 : ∀ s : Nat, s < 8 → s ≠ (S p).toNat → r2 (4195394 + 64 * s) = D s := fun s hs hn => ((fD s (by omega)).trans (yb48_d14 r s hs (by omega))).trans (m5 s hs)
          have t0 : (7 : Int) ≤ r 1048704 ∧ r 1048704 ≤ (7 : Int) := hR.2.2.1 _ List.mem_cons_self
          exact hE0 (yb48a_e hv (by omega)) r2 hr2 G2 (a1049153.trans hZ)
        · have a1048577 : r2 1048577 = r 1048577 := yas hR List.mem_cons_self
          have a1048960 : r2 1048960 = (0 : Int) := yas hR (List.mem_cons_of_mem _ List.mem_cons_self)
          have a1048640 : r2 1048640 = (r 1048640 + (1 : Int)) := yas hR (List.mem_cons_of_mem _ (List.mem_cons_of_mem _ List.mem_cons_self))
          have a1048704 : r2 1048704 = (r 1048704 + (1 : Int)) := yas hR (List.mem_cons_of_mem _ (List.mem_cons_of_mem _ (List.mem_cons_of_mem _ List.mem_cons_self)))
          have a1049153 : r2 1049153 = r 1049153 := yas hR (List.mem_cons_of_mem _ (List.mem_cons_of_mem _ (List.mem_cons_of_mem _ (List.mem_cons_of_mem _ List.mem_cons_self))))
          have fS : ∀ j : Nat, j < 16 → r2 (4194310 + 64 * j) = (bif decide (r 1048960 = (j : Int)) then ((0, -1) : ycV) else (0, r (4194310 + 64 * j))).2 := fun j hj => hR.2.1 _ List.mem_cons_self (4194310, 16, 506) List.mem_cons_self rfl j hj
          have fD : ∀ j : Nat, j < 16 → r2 (4195394 + 64 * j) = (xct r (.branch 0 (.branch 0 (.leaf (10, .num 4195394)) (.branch 0 (.leaf (10, .num 4195394)) (.branch 0 (.branch 0 (.leaf (0, .add (.var 4195778) (.num 1))) (.leaf (10, .num 4195394))) (.leaf (10, .num 4195394))))) (.leaf (10, .num 4195394))) j).2 := fun j hj => hR.2.1 _ (List.mem_cons_of_mem _ List.mem_cons_self) (4195394, 16, 505) (List.mem_cons_of_mem _ List.mem_cons_self) rfl j hj
          have fD2 : ∀ s : Nat, s < 8 → s ≠ (S p).toNat → r2 (4195394 + 64 * s) = D s := fun s hs hn => ((fD s (by omega)).trans (yb48_d14 r s hs (by omega))).trans (m5 s hs)
          have t0 : (0 : Int) ≤ r 1048704 ∧ r 1048704 ≤ (6 : Int) := hR.2.2.1 _ List.mem_cons_self
          exact hK r2 w x (f + 1) (yb48u S p (-1)) (fun s => r2 (4195394 + 64 * s)) hr2 G2 (a1049153.trans hZ) ⟨aw, a1048577.trans m2, by omega, fun k hk => yb48_fu (fS k (by omega)) hup rfl (m4 k hk), fun _ _ => rfl, yb48J_step m6 hp (by omega) fD2 (by decide)⟩ (by omega) (fun j hj => absurd hj (by omega)) hv
      · have hv := yb48w_s hy (by omega)
        have ed : r 4195842 = 0 := (m5 7 (by decide)).trans (by
          have z := m6.2.2.1 p hp (by omega)
          rw [e] at z
          exact z)
        have H1 := xHc (e := .sub (.var 128) (.var 1048960)) (lo := 1) (hi := 16) H (show (1 : Int) ≤ (r 128 - r 1048960) by omega) (show (r 128 - r 1048960) ≤ (16 : Int) by omega)
        have H2 := xHc (e := .var 1049024) (lo := 0) (hi := 0) H1 (show (0 : Int) ≤ r 1049024 by omega) (show r 1049024 ≤ (0 : Int) by omega)
        have H3 := xHc (e := .pow (.sub (.num 4194310) (.var 1048960)) 0) (lo := 7) (hi := 7) H2 (show (7 : Int) ≤ r (4194310 + 64 * (r 1048960).toNat) by omega) (show r (4194310 + 64 * (r 1048960).toNat) ≤ (7 : Int) by omega)
        have H4 := xHc (e := .var 4195842) (lo := 0) (hi := 0) H3 (show (0 : Int) ≤ r 4195842 by omega) (show r 4195842 ≤ (0 : Int) by omega)
        refine yz_run hL yq48_V0s7 hr H4 (xcut_s fun c hc r2 G2 hR => ?_)
        have hr2 : yzr L xs r2 := fun i hi => by rw [hR.2.2.2 i hi]; exact hr i hi
        have aw : r2 128 = w := (hR.2.2.2 128 (by decide)).trans m1
        simp only [List.mem_cons, List.not_mem_nil, or_false] at hc
        rcases hc with rfl | rfl
        · have a1048640 : r2 1048640 = (r 1048640 + (1 : Int)) := yas hR List.mem_cons_self
          have a1048704 : r2 1048704 = (r 1048704 + (1 : Int)) := yas hR (List.mem_cons_of_mem _ List.mem_cons_self)
          have a1049153 : r2 1049153 = r 1049153 := yas hR (List.mem_cons_of_mem _ (List.mem_cons_of_mem _ List.mem_cons_self))
          have fS : ∀ j : Nat, j < 16 → r2 (4194310 + 64 * j) = (bif decide (r 1048960 = (j : Int)) then ((0, -1) : ycV) else (0, r (4194310 + 64 * j))).2 := fun j hj => hR.2.1 _ List.mem_cons_self (4194310, 16, 506) List.mem_cons_self rfl j hj
          have fD : ∀ j : Nat, j < 16 → r2 (4195394 + 64 * j) = (xct r (.branch 0 (.leaf (10, .num 4195394)) (.branch 0 (.leaf (10, .num 4195394)) (.branch 0 (.leaf (10, .num 4195394)) (.branch 0 (.branch 0 (.leaf (0, .add (.var 4195842) (.num 1))) (.leaf (10, .num 4195394))) (.leaf (10, .num 4195394)))))) j).2 := fun j hj => hR.2.1 _ (List.mem_cons_of_mem _ List.mem_cons_self) (4195394, 16, 505) (List.mem_cons_of_mem _ List.mem_cons_self) rfl j hj
          have fD2 : ∀ s : Nat, s < 8 → s ≠ (S p).toNat → r2 (4195394 + 64 * s) = D s := fun s hs hn => ((fD s (by omega)).trans (yb48_d15 r s hs (by omega))).trans (m5 s hs)
          have t0 : (7 : Int) ≤ r 1048704 ∧ r 1048704 ≤ (7 : Int) := hR.2.2.1 _ List.mem_cons_self
          exact hE0 (yb48a_e hv (by omega)) r2 hr2 G2 (a1049153.trans hZ)
        · have a1048577 : r2 1048577 = r 1048577 := yas hR List.mem_cons_self
          have a1048960 : r2 1048960 = (0 : Int) := yas hR (List.mem_cons_of_mem _ List.mem_cons_self)
          have a1048640 : r2 1048640 = (r 1048640 + (1 : Int)) := yas hR (List.mem_cons_of_mem _ (List.mem_cons_of_mem _ List.mem_cons_self))
          have a1048704 : r2 1048704 = (r 1048704 + (1 : Int)) := yas hR (List.mem_cons_of_mem _ (List.mem_cons_of_mem _ (List.mem_cons_of_mem _ List.mem_cons_self)))
          have a1049153 : r2 1049153 = r 1049153 := yas hR (List.mem_cons_of_mem _ (List.mem_cons_of_mem _ (List.mem_cons_of_mem _ (List.mem_cons_of_mem _ List.mem_cons_self))))
          have fS : ∀ j : Nat, j < 16 → r2 (4194310 + 64 * j) = (bif decide (r 1048960 = (j : Int)) then ((0, -1) : ycV) else (0, r (4194310 + 64 * j))).2 := fun j hj => hR.2.1 _ List.mem_cons_self (4194310, 16, 506) List.mem_cons_self rfl j hj
          have fD : ∀ j : Nat, j < 16 → r2 (4195394 + 64 * j) = (xct r (.branch 0 (.leaf (10, .num 4195394)) (.branch 0 (.leaf (10, .num 4195394)) (.branch 0 (.leaf (10, .num 4195394)) (.branch 0 (.branch 0 (.leaf (0, .add (.var 4195842) (.num 1))) (.leaf (10, .num 4195394))) (.leaf (10, .num 4195394)))))) j).2 := fun j hj => hR.2.1 _ (List.mem_cons_of_mem _ List.mem_cons_self) (4195394, 16, 505) (List.mem_cons_of_mem _ List.mem_cons_self) rfl j hj
          have fD2 : ∀ s : Nat, s < 8 → s ≠ (S p).toNat → r2 (4195394 + 64 * s) = D s := fun s hs hn => ((fD s (by omega)).trans (yb48_d15 r s hs (by omega))).trans (m5 s hs)
          have t0 : (0 : Int) ≤ r 1048704 ∧ r 1048704 ≤ (6 : Int) := hR.2.2.1 _ List.mem_cons_self
          exact hK r2 w x (f + 1) (yb48u S p (-1)) (fun s => r2 (4195394 + 64 * s)) hr2 G2 (a1049153.trans hZ) ⟨aw, a1048577.trans m2, by omega, fun k hk => yb48_fu (fS k (by omega)) hup rfl (m4 k hk), fun _ _ => rfl, yb48J_step m6 hp (by omega) fD2 (by decide)⟩ (by omega) (fun j hj => absurd hj (by omega)) hv
    · have H1 := xHc (e := .sub (.var 128) (.var 1048960)) (lo := 2) (hi := 16) H (show (2 : Int) ≤ (r 128 - r 1048960) by omega) (show (r 128 - r 1048960) ≤ (16 : Int) by omega)
      have H2 := xHc (e := .var 1049024) (lo := 1) (hi := 15) H1 (show (1 : Int) ≤ r 1049024 by omega) (show r 1049024 ≤ (15 : Int) by omega)
      refine yz_run hL yq48_V0n hr H2 (xcut_s fun c hc r2 G2 hR => ?_)
      have hr2 : yzr L xs r2 := fun i hi => by rw [hR.2.2.2 i hi]; exact hr i hi
      have aw : r2 128 = w := (hR.2.2.2 128 (by decide)).trans m1
      rw [List.mem_singleton] at hc
      subst hc
      have a1048577 : r2 1048577 = r 1048577 := yas hR List.mem_cons_self
      have a1049024 : r2 1049024 = (r 1049024 + (-1 : Int)) := yas hR (List.mem_cons_of_mem _ List.mem_cons_self)
      have a1048960 : r2 1048960 = (r 1048960 + (1 : Int)) := yas hR (List.mem_cons_of_mem _ (List.mem_cons_of_mem _ List.mem_cons_self))
      have a1048640 : r2 1048640 = r 1048640 := yas hR (List.mem_cons_of_mem _ (List.mem_cons_of_mem _ (List.mem_cons_of_mem _ List.mem_cons_self)))
      have a1048704 : r2 1048704 = r 1048704 := yas hR (List.mem_cons_of_mem _ (List.mem_cons_of_mem _ (List.mem_cons_of_mem _ (List.mem_cons_of_mem _ List.mem_cons_self))))
      have a1049153 : r2 1049153 = r 1049153 := yas hR (List.mem_cons_of_mem _ (List.mem_cons_of_mem _ (List.mem_cons_of_mem _ (List.mem_cons_of_mem _ (List.mem_cons_of_mem _ List.mem_cons_self)))))
      have fS : ∀ j : Nat, j < 16 → r2 (4194310 + 64 * j) = r (4194310 + 64 * j) := fun j hj => hR.2.1 _ List.mem_cons_self (4194310, 16, 506) List.mem_cons_self rfl j hj
      have fD : ∀ j : Nat, j < 16 → r2 (4195394 + 64 * j) = r (4195394 + 64 * j) := fun j hj => hR.2.1 _ (List.mem_cons_of_mem _ List.mem_cons_self) (4195394, 16, 505) (List.mem_cons_of_mem _ List.mem_cons_self) rfl j hj
      exact ih r2 hr2 G2 (a1049153.trans hZ) ⟨aw, a1048577.trans m2, a1048704.trans m3, fun k hk => (fS k (by omega)).trans (m4 k hk), fun s hs => (fD s (by omega)).trans (m5 s hs), m6⟩ (by omega) (by omega) (by omega)
theorem y48_R1 {L : Nat} {xs : Nat → Int32} (hL : L ≤ 3584) {y0 : Int} {n : Nat} (hW : yb48V L xs (yZ1 y0) y0 yt48_V1 yF48_V1 n 1) : yb48C L xs (yZ1 y0) y0 yt48_R1 yF48_R1 (n + 1) 1 := by
  intro r w x f S D hr H hZ hM hT hy
  obtain ⟨m1, m2, m3, m4, m5, m6⟩ := hM
  have hw : 1 ≤ r 128 ∧ r 128 ≤ 16 := xbd_s H (e := .var 128) (lo := 1) (hi := 16) (by decide +kernel)
  have hw2 : 1 ≤ w ∧ w ≤ 16 := by omega
  have H1 := xHc (e := .sub (.var 128) (.pow (.add (.pow (.add (.pow (.add (.pow (.add (.var 1048577) (.num 6364136223846793005)) 38) (.num 1442695040888963407)) 36) (.num 33)) 51) (.var 128)) 40)) (lo := 1) (hi := 16) H (by rw [xden_sub, xden_var, yb48P_d, m1, m2]; exact (yb48_w1 (yb48P_r hw2.1 hw2.2) hw2.2).1) (by rw [xden_sub, xden_var, yb48P_d, m1, m2]; exact (yb48_w1 (yb48P_r hw2.1 hw2.2) hw2.2).2)
  refine yz_run hL yq48_R1 hr H1 (xcut_s fun c hc r2 G2 hR => ?_)
  have hr2 : yzr L xs r2 := fun i hi => by rw [hR.2.2.2 i hi]; exact hr i hi
  have aw : r2 128 = w := (hR.2.2.2 128 (by decide)).trans m1
  rw [List.mem_singleton] at hc
  subst hc
  have a1048960 : r2 1048960 = (0 : Int) := yas hR (List.mem_cons_of_mem _ (List.mem_cons_of_mem _ List.mem_cons_self))
  have a1048640 : r2 1048640 = r 1048640 := yas hR (List.mem_cons_of_mem _ (List.mem_cons_of_mem _ (List.mem_cons_of_mem _ List.mem_cons_self)))
  have a1048704 : r2 1048704 = r 1048704 := yas hR (List.mem_cons_of_mem _ (List.mem_cons_of_mem _ (List.mem_cons_of_mem _ (List.mem_cons_of_mem _ List.mem_cons_self))))
  have a1049153 : r2 1049153 = r 1049153 := yas hR (List.mem_cons_of_mem _ (List.mem_cons_of_mem _ (List.mem_cons_of_mem _ (List.mem_cons_of_mem _ (List.mem_cons_of_mem _ List.mem_cons_self)))))
  have fS : ∀ j : Nat, j < 16 → r2 (4194310 + 64 * j) = r (4194310 + 64 * j) := fun j hj => hR.2.1 _ List.mem_cons_self (4194310, 16, 506) List.mem_cons_self rfl j hj
  have fD : ∀ j : Nat, j < 16 → r2 (4195394 + 64 * j) = r (4195394 + 64 * j) := fun j hj => hR.2.1 _ (List.mem_cons_of_mem _ List.mem_cons_self) (4195394, 16, 505) (List.mem_cons_of_mem _ List.mem_cons_self) rfl j hj
  have o1 := hT
  have gS : ∀ k : Nat, (k : Int) < w → r2 (4194310 + 64 * k) = S k := fun k hk => (fS k (by omega)).trans (m4 k hk)
  have gD : ∀ s : Nat, s < 8 → r2 (4195394 + 64 * s) = D s := fun s hs => (fD s (by omega)).trans (m5 s hs)
  have gT : r2 1048640 + (n : Int) + 1 = 20000 := by omega
  have a1048577 : r2 1048577 = yb48X (r 1048577) := (yas hR List.mem_cons_self).trans (yb48X_d r)
  have a1049024 : r2 1049024 = yb48P (r 128) (r 1048577) := (yas hR (List.mem_cons_of_mem _ List.mem_cons_self)).trans (yb48P_d r)
  exact hW r2 w (yb48X x) f S D (yb48P w x).toNat hr2 G2 (a1049153.trans hZ) ⟨aw, by rw [a1048577, m2], a1048704.trans m3, gS, gD, m6⟩ gT (yb48_w2 (yb48P_r hw2.1 hw2.2)) (by rw [a1049024, a1048960, m1, m2]; exact yb48_w4 (yb48P_r hw2.1 hw2.2)) (yb48_t hy)
theorem y48_V1 {L : Nat} {xs : Nat → Int32} (hL : L ≤ 3584) {y0 : Int} {n : Nat} (hC : yb48C L xs (yZ1 y0) y0 yt48_R1 yF48_R1 n 1) (hK : yb48K L xs (yZ1 y0) y0 yt48_RK yF48_RK n) (hE0 : yb48E L xs (yZ1 y0) y0 (0) yt48_X0 yF48_X0) (hE3 : yb48E L xs (yZ1 y0) y0 (-3) yt48_X3 yF48_X3) : yb48V L xs (yZ1 y0) y0 yt48_V1 yF48_V1 n 1 := by
  intro r w x f S D p hr H hZ hM hT hp hP hy
  suffices main : ∀ d : Nat, ∀ r, yzr L xs r → xH r yF48_V1 → (yZ1 y0) r → yb48M r w 1 x f S D → r 1048640 + (n : Int) + 1 = 20000 → r 1049024 + r 1048960 = (p : Int) → r 1049024 < (d : Int) → xGl (yfT (ykold L xs)) r yzP yt48_V1 from
    main 16 r hr H hZ hM hT hP (by
      have hPb : 0 ≤ r 1049024 ∧ r 1049024 ≤ 15 := xbd_s H (e := .var 1049024) (lo := 0) (hi := 15) (by decide +kernel)
      omega)
  intro d
  induction d with
  | zero =>
    intro r hr H hZ hM hT hP hd
    have hPb : 0 ≤ r 1049024 ∧ r 1049024 ≤ 15 := xbd_s H (e := .var 1049024) (lo := 0) (hi := 15) (by decide +kernel)
    omega
  | succ d ih =>
    intro r hr H hZ hM hT hP hd
    have hPb : 0 ≤ r 1049024 ∧ r 1049024 ≤ 15 := xbd_s H (e := .var 1049024) (lo := 0) (hi := 15) (by decide +kernel)
    obtain ⟨m1, m2, m3, m4, m5, m6⟩ := hM
    have hw : 1 ≤ r 128 ∧ r 128 ≤ 16 := xbd_s H (e := .var 128) (lo := 1) (hi := 16) (by decide +kernel)
    have hu : 0 ≤ r 1048960 ∧ r 1048960 ≤ 15 := xbd_s H (e := .var 1048960) (lo := 0) (hi := 15) (by decide +kernel)
    have hf : 0 ≤ r 1048704 ∧ r 1048704 ≤ 7 := xbd_s H (e := .var 1048704) (lo := 0) (hi := 7) (by decide +kernel)
    by_cases hup0 : r 1049024 = 0
    · have hup : r 1048960 = (p : Int) := by omega
      have es : r (4194310 + 64 * (r 1048960).toNat) = S p := by
        have e0 : (r 1048960).toNat = p := by omega
        rw [e0]
        exact m4 p hp
      have j1 := m6.1 p hp
      have e : S p = -1 ∨ S p = 0 ∨ S p = 1 ∨ S p = 2 ∨ S p = 3 ∨ S p = 4 ∨ S p = 5 ∨ S p = 6 := by omega
      rcases e with e | e | e | e | e | e | e | e
      · have hv := yb48w_t (q := 0) hy e
        have H1 := xHc (e := .sub (.var 128) (.var 1048960)) (lo := 1) (hi := 16) H (show (1 : Int) ≤ (r 128 - r 1048960) by omega) (show (r 128 - r 1048960) ≤ (16 : Int) by omega)
        have H2 := xHc (e := .var 1049024) (lo := 0) (hi := 0) H1 (show (0 : Int) ≤ r 1049024 by omega) (show r 1049024 ≤ (0 : Int) by omega)
        have H3 := xHc (e := .pow (.sub (.num 4194310) (.var 1048960)) 0) (lo := -1) (hi := -1) H2 (show (-1 : Int) ≤ r (4194310 + 64 * (r 1048960).toNat) by omega) (show r (4194310 + 64 * (r 1048960).toNat) ≤ (-1 : Int) by omega)
        refine yz_run hL yq48_V1t hr H3 (xcut_s fun c hc r2 G2 hR => ?_)
        have hr2 : yzr L xs r2 := fun i hi => by rw [hR.2.2.2 i hi]; exact hr i hi
        have aw : r2 128 = w := (hR.2.2.2 128 (by decide)).trans m1
        rw [List.mem_singleton] at hc
        subst hc
        have a1048577 : r2 1048577 = r 1048577 := yas hR List.mem_cons_self
        have a1048960 : r2 1048960 = (0 : Int) := yas hR (List.mem_cons_of_mem _ List.mem_cons_self)
        have a1048640 : r2 1048640 = (r 1048640 + (1 : Int)) := yas hR (List.mem_cons_of_mem _ (List.mem_cons_of_mem _ List.mem_cons_self))
        have a1048704 : r2 1048704 = r 1048704 := yas hR (List.mem_cons_of_mem _ (List.mem_cons_of_mem _ (List.mem_cons_of_mem _ List.mem_cons_self)))
        have a1049153 : r2 1049153 = r 1049153 := yas hR (List.mem_cons_of_mem _ (List.mem_cons_of_mem _ (List.mem_cons_of_mem _ (List.mem_cons_of_mem _ List.mem_cons_self))))
        have fS : ∀ j : Nat, j < 16 → r2 (4194310 + 64 * j) = (bif decide (r 1048960 = (j : Int)) then ((0, 7) : ycV) else (0, r (4194310 + 64 * j))).2 := fun j hj => hR.2.1 _ List.mem_cons_self (4194310, 16, 506) List.mem_cons_self rfl j hj
        have fD : ∀ j : Nat, j < 16 → r2 (4195394 + 64 * j) = r (4195394 + 64 * j) := fun j hj => hR.2.1 _ (List.mem_cons_of_mem _ List.mem_cons_self) (4195394, 16, 505) (List.mem_cons_of_mem _ List.mem_cons_self) rfl j hj
        exact hK r2 w x f (yb48u S p (8 - ((0 + 1 : Nat) : Int))) D hr2 G2 (a1049153.trans hZ) ⟨aw, a1048577.trans m2, a1048704.trans m3, fun k hk => yb48_fu (fS k (by omega)) hup (by decide) (m4 k hk), fun s hs => (fD s (by omega)).trans (m5 s hs), yb48J_take m6 hp (by decide)⟩ (by omega) (fun j hj => absurd hj (by omega)) hv
      · have hv := yb48w_s hy (by omega)
        have ed : r 4195394 = 0 := (m5 0 (by decide)).trans (by
          have z := m6.2.2.1 p hp (by omega)
          rw [e] at z
          exact z)
        have H1 := xHc (e := .sub (.var 128) (.var 1048960)) (lo := 1) (hi := 16) H (show (1 : Int) ≤ (r 128 - r 1048960) by omega) (show (r 128 - r 1048960) ≤ (16 : Int) by omega)
        have H2 := xHc (e := .var 1049024) (lo := 0) (hi := 0) H1 (show (0 : Int) ≤ r 1049024 by omega) (show r 1049024 ≤ (0 : Int) by omega)
        have H3 := xHc (e := .pow (.sub (.num 4194310) (.var 1048960)) 0) (lo := 0) (hi := 0) H2 (show (0 : Int) ≤ r (4194310 + 64 * (r 1048960).toNat) by omega) (show r (4194310 + 64 * (r 1048960).toNat) ≤ (0 : Int) by omega)
        have H4 := xHc (e := .var 4195394) (lo := 0) (hi := 0) H3 (show (0 : Int) ≤ r 4195394 by omega) (show r 4195394 ≤ (0 : Int) by omega)
        refine yz_run hL yq48_V1s0 hr H4 (xcut_s fun c hc r2 G2 hR => ?_)
        have hr2 : yzr L xs r2 := fun i hi => by rw [hR.2.2.2 i hi]; exact hr i hi
        have aw : r2 128 = w := (hR.2.2.2 128 (by decide)).trans m1
        simp only [List.mem_cons, List.not_mem_nil, or_false] at hc
        rcases hc with rfl | rfl | rfl
        · have a1048640 : r2 1048640 = (r 1048640 + (1 : Int)) := yas hR List.mem_cons_self
          have a1048704 : r2 1048704 = (r 1048704 + (1 : Int)) := yas hR (List.mem_cons_of_mem _ List.mem_cons_self)
          have a1049153 : r2 1049153 = r 1049153 := yas hR (List.mem_cons_of_mem _ (List.mem_cons_of_mem _ List.mem_cons_self))
          have fS : ∀ j : Nat, j < 16 → r2 (4194310 + 64 * j) = (bif decide (r 1048960 = (j : Int)) then ((0, -1) : ycV) else (0, r (4194310 + 64 * j))).2 := fun j hj => hR.2.1 _ List.mem_cons_self (4194310, 16, 506) List.mem_cons_self rfl j hj
          have fD : ∀ j : Nat, j < 16 → r2 (4195394 + 64 * j) = (xct r (.branch 0 (.branch 0 (.branch 0 (.branch 0 (.branch 0 (.leaf (0, .add (.var 4195394) (.num 1))) (.leaf (10, .num 4195394))) (.leaf (10, .num 4195394))) (.leaf (10, .num 4195394))) (.leaf (10, .num 4195394))) (.leaf (10, .num 4195394))) j).2 := fun j hj => hR.2.1 _ (List.mem_cons_of_mem _ List.mem_cons_self) (4195394, 16, 505) (List.mem_cons_of_mem _ List.mem_cons_self) rfl j hj
          have fD2 : ∀ s : Nat, s < 8 → s ≠ (S p).toNat → r2 (4195394 + 64 * s) = D s := fun s hs hn => ((fD s (by omega)).trans (yb48_d8 r s hs (by omega))).trans (m5 s hs)
          have t0 : (7 : Int) ≤ r 1048704 ∧ r 1048704 ≤ (7 : Int) := hR.2.2.1 _ List.mem_cons_self
          exact hE0 (yb48a_e hv (by omega)) r2 hr2 G2 (a1049153.trans hZ)
        · have a1048640 : r2 1048640 = (r 1048640 + (1 : Int)) := yas hR List.mem_cons_self
          have a1048704 : r2 1048704 = (r 1048704 + (1 : Int)) := yas hR (List.mem_cons_of_mem _ List.mem_cons_self)
          have a1049153 : r2 1049153 = r 1049153 := yas hR (List.mem_cons_of_mem _ (List.mem_cons_of_mem _ List.mem_cons_self))
          have fS : ∀ j : Nat, j < 16 → r2 (4194310 + 64 * j) = (bif decide (r 1048960 = (j : Int)) then ((0, -1) : ycV) else (0, r (4194310 + 64 * j))).2 := fun j hj => hR.2.1 _ List.mem_cons_self (4194310, 16, 506) List.mem_cons_self rfl j hj
          have fD : ∀ j : Nat, j < 16 → r2 (4195394 + 64 * j) = (xct r (.branch 0 (.branch 0 (.branch 0 (.branch 0 (.branch 0 (.leaf (0, .add (.var 4195394) (.num 1))) (.leaf (10, .num 4195394))) (.leaf (10, .num 4195394))) (.leaf (10, .num 4195394))) (.leaf (10, .num 4195394))) (.leaf (10, .num 4195394))) j).2 := fun j hj => hR.2.1 _ (List.mem_cons_of_mem _ List.mem_cons_self) (4195394, 16, 505) (List.mem_cons_of_mem _ List.mem_cons_self) rfl j hj
          have fD2 : ∀ s : Nat, s < 8 → s ≠ (S p).toNat → r2 (4195394 + 64 * s) = D s := fun s hs hn => ((fD s (by omega)).trans (yb48_d8 r s hs (by omega))).trans (m5 s hs)
          have t1 : (0 : Int) ≤ r 1048704 ∧ r 1048704 ≤ (6 : Int) := hR.2.2.1 _ (List.mem_cons_of_mem _ List.mem_cons_self)
          have hv2 := yb48a_n hv (by omega) (by decide)
          have t0 : (19999 : Int) ≤ r 1048640 ∧ r 1048640 ≤ (19999 : Int) := hR.2.2.1 _ List.mem_cons_self
          have hn : n = 0 := by omega
          subst hn
          exact hE3 (yb48_0 hv2) r2 hr2 G2 (a1049153.trans hZ)
        · have a1048577 : r2 1048577 = r 1048577 := yas hR List.mem_cons_self
          have a1048640 : r2 1048640 = (r 1048640 + (1 : Int)) := yas hR (List.mem_cons_of_mem _ List.mem_cons_self)
          have a1048704 : r2 1048704 = (r 1048704 + (1 : Int)) := yas hR (List.mem_cons_of_mem _ (List.mem_cons_of_mem _ List.mem_cons_self))
          have a1049153 : r2 1049153 = r 1049153 := yas hR (List.mem_cons_of_mem _ (List.mem_cons_of_mem _ (List.mem_cons_of_mem _ List.mem_cons_self)))
          have fS : ∀ j : Nat, j < 16 → r2 (4194310 + 64 * j) = (bif decide (r 1048960 = (j : Int)) then ((0, -1) : ycV) else (0, r (4194310 + 64 * j))).2 := fun j hj => hR.2.1 _ List.mem_cons_self (4194310, 16, 506) List.mem_cons_self rfl j hj
          have fD : ∀ j : Nat, j < 16 → r2 (4195394 + 64 * j) = (xct r (.branch 0 (.branch 0 (.branch 0 (.branch 0 (.branch 0 (.leaf (0, .add (.var 4195394) (.num 1))) (.leaf (10, .num 4195394))) (.leaf (10, .num 4195394))) (.leaf (10, .num 4195394))) (.leaf (10, .num 4195394))) (.leaf (10, .num 4195394))) j).2 := fun j hj => hR.2.1 _ (List.mem_cons_of_mem _ List.mem_cons_self) (4195394, 16, 505) (List.mem_cons_of_mem _ List.mem_cons_self) rfl j hj
          have fD2 : ∀ s : Nat, s < 8 → s ≠ (S p).toNat → r2 (4195394 + 64 * s) = D s := fun s hs hn => ((fD s (by omega)).trans (yb48_d8 r s hs (by omega))).trans (m5 s hs)
          have t1 : (0 : Int) ≤ r 1048704 ∧ r 1048704 ≤ (6 : Int) := hR.2.2.1 _ (List.mem_cons_of_mem _ List.mem_cons_self)
          have hv2 := yb48a_n hv (by omega) (by decide)
          exact hC r2 w x (f + 1) (yb48u S p (-1)) (fun s => r2 (4195394 + 64 * s)) hr2 G2 (a1049153.trans hZ) ⟨aw, a1048577.trans m2, by omega, fun k hk => yb48_fu (fS k (by omega)) hup rfl (m4 k hk), fun _ _ => rfl, yb48J_step m6 hp (by omega) fD2 (by decide)⟩ (by omega) hv2
      · have hv := yb48w_s hy (by omega)
        have ed : r 4195458 = 0 := (m5 1 (by decide)).trans (by
          have z := m6.2.2.1 p hp (by omega)
          rw [e] at z
          exact z)
        have H1 := xHc (e := .sub (.var 128) (.var 1048960)) (lo := 1) (hi := 16) H (show (1 : Int) ≤ (r 128 - r 1048960) by omega) (show (r 128 - r 1048960) ≤ (16 : Int) by omega)
        have H2 := xHc (e := .var 1049024) (lo := 0) (hi := 0) H1 (show (0 : Int) ≤ r 1049024 by omega) (show r 1049024 ≤ (0 : Int) by omega)
        have H3 := xHc (e := .pow (.sub (.num 4194310) (.var 1048960)) 0) (lo := 1) (hi := 1) H2 (show (1 : Int) ≤ r (4194310 + 64 * (r 1048960).toNat) by omega) (show r (4194310 + 64 * (r 1048960).toNat) ≤ (1 : Int) by omega)
        have H4 := xHc (e := .var 4195458) (lo := 0) (hi := 0) H3 (show (0 : Int) ≤ r 4195458 by omega) (show r 4195458 ≤ (0 : Int) by omega)
        refine yz_run hL yq48_V1s1 hr H4 (xcut_s fun c hc r2 G2 hR => ?_)
        have hr2 : yzr L xs r2 := fun i hi => by rw [hR.2.2.2 i hi]; exact hr i hi
        have aw : r2 128 = w := (hR.2.2.2 128 (by decide)).trans m1
        simp only [List.mem_cons, List.not_mem_nil, or_false] at hc
        rcases hc with rfl | rfl | rfl
        · have a1048640 : r2 1048640 = (r 1048640 + (1 : Int)) := yas hR List.mem_cons_self
          have a1048704 : r2 1048704 = (r 1048704 + (1 : Int)) := yas hR (List.mem_cons_of_mem _ List.mem_cons_self)
          have a1049153 : r2 1049153 = r 1049153 := yas hR (List.mem_cons_of_mem _ (List.mem_cons_of_mem _ List.mem_cons_self))
          have fS : ∀ j : Nat, j < 16 → r2 (4194310 + 64 * j) = (bif decide (r 1048960 = (j : Int)) then ((0, -1) : ycV) else (0, r (4194310 + 64 * j))).2 := fun j hj => hR.2.1 _ List.mem_cons_self (4194310, 16, 506) List.mem_cons_self rfl j hj
          have fD : ∀ j : Nat, j < 16 → r2 (4195394 + 64 * j) = (xct r (.branch 0 (.leaf (10, .num 4195394)) (.branch 0 (.branch 0 (.branch 0 (.branch 0 (.leaf (0, .add (.var 4195458) (.num 1))) (.leaf (10, .num 4195394))) (.leaf (10, .num 4195394))) (.leaf (10, .num 4195394))) (.leaf (10, .num 4195394)))) j).2 := fun j hj => hR.2.1 _ (List.mem_cons_of_mem _ List.mem_cons_self) (4195394, 16, 505) (List.mem_cons_of_mem _ List.mem_cons_self) rfl j hj
          have fD2 : ∀ s : Nat, s < 8 → s ≠ (S p).toNat → r2 (4195394 + 64 * s) = D s := fun s hs hn => ((fD s (by omega)).trans (yb48_d9 r s hs (by omega))).trans (m5 s hs)
          have t0 : (7 : Int) ≤ r 1048704 ∧ r 1048704 ≤ (7 : Int) := hR.2.2.1 _ List.mem_cons_self
          exact hE0 (yb48a_e hv (by omega)) r2 hr2 G2 (a1049153.trans hZ)
        · have a1048640 : r2 1048640 = (r 1048640 + (1 : Int)) := yas hR List.mem_cons_self
          have a1048704 : r2 1048704 = (r 1048704 + (1 : Int)) := yas hR (List.mem_cons_of_mem _ List.mem_cons_self)
          have a1049153 : r2 1049153 = r 1049153 := yas hR (List.mem_cons_of_mem _ (List.mem_cons_of_mem _ List.mem_cons_self))
          have fS : ∀ j : Nat, j < 16 → r2 (4194310 + 64 * j) = (bif decide (r 1048960 = (j : Int)) then ((0, -1) : ycV) else (0, r (4194310 + 64 * j))).2 := fun j hj => hR.2.1 _ List.mem_cons_self (4194310, 16, 506) List.mem_cons_self rfl j hj
          have fD : ∀ j : Nat, j < 16 → r2 (4195394 + 64 * j) = (xct r (.branch 0 (.leaf (10, .num 4195394)) (.branch 0 (.branch 0 (.branch 0 (.branch 0 (.leaf (0, .add (.var 4195458) (.num 1))) (.leaf (10, .num 4195394))) (.leaf (10, .num 4195394))) (.leaf (10, .num 4195394))) (.leaf (10, .num 4195394)))) j).2 := fun j hj => hR.2.1 _ (List.mem_cons_of_mem _ List.mem_cons_self) (4195394, 16, 505) (List.mem_cons_of_mem _ List.mem_cons_self) rfl j hj
          have fD2 : ∀ s : Nat, s < 8 → s ≠ (S p).toNat → r2 (4195394 + 64 * s) = D s := fun s hs hn => ((fD s (by omega)).trans (yb48_d9 r s hs (by omega))).trans (m5 s hs)
          have t1 : (0 : Int) ≤ r 1048704 ∧ r 1048704 ≤ (6 : Int) := hR.2.2.1 _ (List.mem_cons_of_mem _ List.mem_cons_self)
          have hv2 := yb48a_n hv (by omega) (by decide)
          have t0 : (19999 : Int) ≤ r 1048640 ∧ r 1048640 ≤ (19999 : Int) := hR.2.2.1 _ List.mem_cons_self
          have hn : n = 0 := by omega
          subst hn
          exact hE3 (yb48_0 hv2) r2 hr2 G2 (a1049153.trans hZ)
        · have a1048577 : r2 1048577 = r 1048577 := yas hR List.mem_cons_self
          have a1048640 : r2 1048640 = (r 1048640 + (1 : Int)) := yas hR (List.mem_cons_of_mem _ List.mem_cons_self)
          have a1048704 : r2 1048704 = (r 1048704 + (1 : Int)) := yas hR (List.mem_cons_of_mem _ (List.mem_cons_of_mem _ List.mem_cons_self))
          have a1049153 : r2 1049153 = r 1049153 := yas hR (List.mem_cons_of_mem _ (List.mem_cons_of_mem _ (List.mem_cons_of_mem _ List.mem_cons_self)))
          have fS : ∀ j : Nat, j < 16 → r2 (4194310 + 64 * j) = (bif decide (r 1048960 = (j : Int)) then ((0, -1) : ycV) else (0, r (4194310 + 64 * j))).2 := fun j hj => hR.2.1 _ List.mem_cons_self (4194310, 16, 506) List.mem_cons_self rfl j hj
          have fD : ∀ j : Nat, j < 16 → r2 (4195394 + 64 * j) = (xct r (.branch 0 (.leaf (10, .num 4195394)) (.branch 0 (.branch 0 (.branch 0 (.branch 0 (.leaf (0, .add (.var 4195458) (.num 1))) (.leaf (10, .num 4195394))) (.leaf (10, .num 4195394))) (.leaf (10, .num 4195394))) (.leaf (10, .num 4195394)))) j).2 := fun j hj => hR.2.1 _ (List.mem_cons_of_mem _ List.mem_cons_self) (4195394, 16, 505) (List.mem_cons_of_mem _ List.mem_cons_self) rfl j hj
          have fD2 : ∀ s : Nat, s < 8 → s ≠ (S p).toNat → r2 (4195394 + 64 * s) = D s := fun s hs hn => ((fD s (by omega)).trans (yb48_d9 r s hs (by omega))).trans (m5 s hs)
          have t1 : (0 : Int) ≤ r 1048704 ∧ r 1048704 ≤ (6 : Int) := hR.2.2.1 _ (List.mem_cons_of_mem _ List.mem_cons_self)
          have hv2 := yb48a_n hv (by omega) (by decide)
          exact hC r2 w x (f + 1) (yb48u S p (-1)) (fun s => r2 (4195394 + 64 * s)) hr2 G2 (a1049153.trans hZ) ⟨aw, a1048577.trans m2, by omega, fun k hk => yb48_fu (fS k (by omega)) hup rfl (m4 k hk), fun _ _ => rfl, yb48J_step m6 hp (by omega) fD2 (by decide)⟩ (by omega) hv2
      · have hv := yb48w_s hy (by omega)
        have ed : r 4195522 = 0 := (m5 2 (by decide)).trans (by
          have z := m6.2.2.1 p hp (by omega)
          rw [e] at z
          exact z)
        have H1 := xHc (e := .sub (.var 128) (.var 1048960)) (lo := 1) (hi := 16) H (show (1 : Int) ≤ (r 128 - r 1048960) by omega) (show (r 128 - r 1048960) ≤ (16 : Int) by omega)
        have H2 := xHc (e := .var 1049024) (lo := 0) (hi := 0) H1 (show (0 : Int) ≤ r 1049024 by omega) (show r 1049024 ≤ (0 : Int) by omega)
        have H3 := xHc (e := .pow (.sub (.num 4194310) (.var 1048960)) 0) (lo := 2) (hi := 2) H2 (show (2 : Int) ≤ r (4194310 + 64 * (r 1048960).toNat) by omega) (show r (4194310 + 64 * (r 1048960).toNat) ≤ (2 : Int) by omega)
        have H4 := xHc (e := .var 4195522) (lo := 0) (hi := 0) H3 (show (0 : Int) ≤ r 4195522 by omega) (show r 4195522 ≤ (0 : Int) by omega)
        refine yz_run hL yq48_V1s2 hr H4 (xcut_s fun c hc r2 G2 hR => ?_)
        have hr2 : yzr L xs r2 := fun i hi => by rw [hR.2.2.2 i hi]; exact hr i hi
        have aw : r2 128 = w := (hR.2.2.2 128 (by decide)).trans m1
        simp only [List.mem_cons, List.not_mem_nil, or_false] at hc
        rcases hc with rfl | rfl | rfl
        · have a1048640 : r2 1048640 = (r 1048640 + (1 : Int)) := yas hR List.mem_cons_self
          have a1048704 : r2 1048704 = (r 1048704 + (1 : Int)) := yas hR (List.mem_cons_of_mem _ List.mem_cons_self)
          have a1049153 : r2 1049153 = r 1049153 := yas hR (List.mem_cons_of_mem _ (List.mem_cons_of_mem _ List.mem_cons_self))
          have fS : ∀ j : Nat, j < 16 → r2 (4194310 + 64 * j) = (bif decide (r 1048960 = (j : Int)) then ((0, -1) : ycV) else (0, r (4194310 + 64 * j))).2 := fun j hj => hR.2.1 _ List.mem_cons_self (4194310, 16, 506) List.mem_cons_self rfl j hj
          have fD : ∀ j : Nat, j < 16 → r2 (4195394 + 64 * j) = (xct r (.branch 0 (.branch 0 (.leaf (10, .num 4195394)) (.branch 0 (.branch 0 (.branch 0 (.leaf (0, .add (.var 4195522) (.num 1))) (.leaf (10, .num 4195394))) (.leaf (10, .num 4195394))) (.leaf (10, .num 4195394)))) (.leaf (10, .num 4195394))) j).2 := fun j hj => hR.2.1 _ (List.mem_cons_of_mem _ List.mem_cons_self) (4195394, 16, 505) (List.mem_cons_of_mem _ List.mem_cons_self) rfl j hj
          have fD2 : ∀ s : Nat, s < 8 → s ≠ (S p).toNat → r2 (4195394 + 64 * s) = D s := fun s hs hn => ((fD s (by omega)).trans (yb48_d10 r s hs (by omega))).trans (m5 s hs)
          have t0 : (7 : Int) ≤ r 1048704 ∧ r 1048704 ≤ (7 : Int) := hR.2.2.1 _ List.mem_cons_self
          exact hE0 (yb48a_e hv (by omega)) r2 hr2 G2 (a1049153.trans hZ)
        · have a1048640 : r2 1048640 = (r 1048640 + (1 : Int)) := yas hR List.mem_cons_self
          have a1048704 : r2 1048704 = (r 1048704 + (1 : Int)) := yas hR (List.mem_cons_of_mem _ List.mem_cons_self)
          have a1049153 : r2 1049153 = r 1049153 := yas hR (List.mem_cons_of_mem _ (List.mem_cons_of_mem _ List.mem_cons_self))
          have fS : ∀ j : Nat, j < 16 → r2 (4194310 + 64 * j) = (bif decide (r 1048960 = (j : Int)) then ((0, -1) : ycV) else (0, r (4194310 + 64 * j))).2 := fun j hj => hR.2.1 _ List.mem_cons_self (4194310, 16, 506) List.mem_cons_self rfl j hj
          have fD : ∀ j : Nat, j < 16 → r2 (4195394 + 64 * j) = (xct r (.branch 0 (.branch 0 (.leaf (10, .num 4195394)) (.branch 0 (.branch 0 (.branch 0 (.leaf (0, .add (.var 4195522) (.num 1))) (.leaf (10, .num 4195394))) (.leaf (10, .num 4195394))) (.leaf (10, .num 4195394)))) (.leaf (10, .num 4195394))) j).2 := fun j hj => hR.2.1 _ (List.mem_cons_of_mem _ List.mem_cons_self) (4195394, 16, 505) (List.mem_cons_of_mem _ List.mem_cons_self) rfl j hj
          have fD2 : ∀ s : Nat, s < 8 → s ≠ (S p).toNat → r2 (4195394 + 64 * s) = D s := fun s hs hn => ((fD s (by omega)).trans (yb48_d10 r s hs (by omega))).trans (m5 s hs)
          have t1 : (0 : Int) ≤ r 1048704 ∧ r 1048704 ≤ (6 : Int) := hR.2.2.1 _ (List.mem_cons_of_mem _ List.mem_cons_self)
          have hv2 := yb48a_n hv (by omega) (by decide)
          have t0 : (19999 : Int) ≤ r 1048640 ∧ r 1048640 ≤ (19999 : Int) := hR.2.2.1 _ List.mem_cons_self
          have hn : n = 0 := by omega
          subst hn
          exact hE3 (yb48_0 hv2) r2 hr2 G2 (a1049153.trans hZ)
        · have a1048577 : r2 1048577 = r 1048577 := yas hR List.mem_cons_self
          have a1048640 : r2 1048640 = (r 1048640 + (1 : Int)) := yas hR (List.mem_cons_of_mem _ List.mem_cons_self)
          have a1048704 : r2 1048704 = (r 1048704 + (1 : Int)) := yas hR (List.mem_cons_of_mem _ (List.mem_cons_of_mem _ List.mem_cons_self))
          have a1049153 : r2 1049153 = r 1049153 := yas hR (List.mem_cons_of_mem _ (List.mem_cons_of_mem _ (List.mem_cons_of_mem _ List.mem_cons_self)))
          have fS : ∀ j : Nat, j < 16 → r2 (4194310 + 64 * j) = (bif decide (r 1048960 = (j : Int)) then ((0, -1) : ycV) else (0, r (4194310 + 64 * j))).2 := fun j hj => hR.2.1 _ List.mem_cons_self (4194310, 16, 506) List.mem_cons_self rfl j hj
          have fD : ∀ j : Nat, j < 16 → r2 (4195394 + 64 * j) = (xct r (.branch 0 (.branch 0 (.leaf (10, .num 4195394)) (.branch 0 (.branch 0 (.branch 0 (.leaf (0, .add (.var 4195522) (.num 1))) (.leaf (10, .num 4195394))) (.leaf (10, .num 4195394))) (.leaf (10, .num 4195394)))) (.leaf (10, .num 4195394))) j).2 := fun j hj => hR.2.1 _ (List.mem_cons_of_mem _ List.mem_cons_self) (4195394, 16, 505) (List.mem_cons_of_mem _ List.mem_cons_self) rfl j hj
          have fD2 : ∀ s : Nat, s < 8 → s ≠ (S p).toNat → r2 (4195394 + 64 * s) = D s := fun s hs hn => ((fD s (by omega)).trans (yb48_d10 r s hs (by omega))).trans (m5 s hs)
          have t1 : (0 : Int) ≤ r 1048704 ∧ r 1048704 ≤ (6 : Int) := hR.2.2.1 _ (List.mem_cons_of_mem _ List.mem_cons_self)
          have hv2 := yb48a_n hv (by omega) (by decide)
          exact hC r2 w x (f + 1) (yb48u S p (-1)) (fun s => r2 (4195394 + 64 * s)) hr2 G2 (a1049153.trans hZ) ⟨aw, a1048577.trans m2, by omega, fun k hk => yb48_fu (fS k (by omega)) hup rfl (m4 k hk), fun _ _ => rfl, yb48J_step m6 hp (by omega) fD2 (by decide)⟩ (by omega) hv2
      · have hv := yb48w_s hy (by omega)
        have ed : r 4195586 = 0 := (m5 3 (by decide)).trans (by
          have z := m6.2.2.1 p hp (by omega)
          rw [e] at z
          exact z)
        have H1 := xHc (e := .sub (.var 128) (.var 1048960)) (lo := 1) (hi := 16) H (show (1 : Int) ≤ (r 128 - r 1048960) by omega) (show (r 128 - r 1048960) ≤ (16 : Int) by omega)
        have H2 := xHc (e := .var 1049024) (lo := 0) (hi := 0) H1 (show (0 : Int) ≤ r 1049024 by omega) (show r 1049024 ≤ (0 : Int) by omega)
        have H3 := xHc (e := .pow (.sub (.num 4194310) (.var 1048960)) 0) (lo := 3) (hi := 3) H2 (show (3 : Int) ≤ r (4194310 + 64 * (r 1048960).toNat) by omega) (show r (4194310 + 64 * (r 1048960).toNat) ≤ (3 : Int) by omega)
        have H4 := xHc (e := .var 4195586) (lo := 0) (hi := 0) H3 (show (0 : Int) ≤ r 4195586 by omega) (show r 4195586 ≤ (0 : Int) by omega)
        refine yz_run hL yq48_V1s3 hr H4 (xcut_s fun c hc r2 G2 hR => ?_)
        have hr2 : yzr L xs r2 := fun i hi => by rw [hR.2.2.2 i hi]; exact hr i hi
        have aw : r2 128 = w := (hR.2.2.2 128 (by decide)).trans m1
        simp only [List.mem_cons, List.not_mem_nil, or_false] at hc
        rcases hc with rfl | rfl | rfl
        · have a1048640 : r2 1048640 = (r 1048640 + (1 : Int)) := yas hR List.mem_cons_self
          have a1048704 : r2 1048704 = (r 1048704 + (1 : Int)) := yas hR (List.mem_cons_of_mem _ List.mem_cons_self)
          have a1049153 : r2 1049153 = r 1049153 := yas hR (List.mem_cons_of_mem _ (List.mem_cons_of_mem _ List.mem_cons_self))
          have fS : ∀ j : Nat, j < 16 → r2 (4194310 + 64 * j) = (bif decide (r 1048960 = (j : Int)) then ((0, -1) : ycV) else (0, r (4194310 + 64 * j))).2 := fun j hj => hR.2.1 _ List.mem_cons_self (4194310, 16, 506) List.mem_cons_self rfl j hj
          have fD : ∀ j : Nat, j < 16 → r2 (4195394 + 64 * j) = (xct r (.branch 0 (.leaf (10, .num 4195394)) (.branch 0 (.leaf (10, .num 4195394)) (.branch 0 (.branch 0 (.branch 0 (.leaf (0, .add (.var 4195586) (.num 1))) (.leaf (10, .num 4195394))) (.leaf (10, .num 4195394))) (.leaf (10, .num 4195394))))) j).2 := fun j hj => hR.2.1 _ (List.mem_cons_of_mem _ List.mem_cons_self) (4195394, 16, 505) (List.mem_cons_of_mem _ List.mem_cons_self) rfl j hj
          have fD2 : ∀ s : Nat, s < 8 → s ≠ (S p).toNat → r2 (4195394 + 64 * s) = D s := fun s hs hn => ((fD s (by omega)).trans (yb48_d11 r s hs (by omega))).trans (m5 s hs)
          have t0 : (7 : Int) ≤ r 1048704 ∧ r 1048704 ≤ (7 : Int) := hR.2.2.1 _ List.mem_cons_self
          exact hE0 (yb48a_e hv (by omega)) r2 hr2 G2 (a1049153.trans hZ)
        · have a1048640 : r2 1048640 = (r 1048640 + (1 : Int)) := yas hR List.mem_cons_self
          have a1048704 : r2 1048704 = (r 1048704 + (1 : Int)) := yas hR (List.mem_cons_of_mem _ List.mem_cons_self)
          have a1049153 : r2 1049153 = r 1049153 := yas hR (List.mem_cons_of_mem _ (List.mem_cons_of_mem _ List.mem_cons_self))
          have fS : ∀ j : Nat, j < 16 → r2 (4194310 + 64 * j) = (bif decide (r 1048960 = (j : Int)) then ((0, -1) : ycV) else (0, r (4194310 + 64 * j))).2 := fun j hj => hR.2.1 _ List.mem_cons_self (4194310, 16, 506) List.mem_cons_self rfl j hj
          have fD : ∀ j : Nat, j < 16 → r2 (4195394 + 64 * j) = (xct r (.branch 0 (.leaf (10, .num 4195394)) (.branch 0 (.leaf (10, .num 4195394)) (.branch 0 (.branch 0 (.branch 0 (.leaf (0, .add (.var 4195586) (.num 1))) (.leaf (10, .num 4195394))) (.leaf (10, .num 4195394))) (.leaf (10, .num 4195394))))) j).2 := fun j hj => hR.2.1 _ (List.mem_cons_of_mem _ List.mem_cons_self) (4195394, 16, 505) (List.mem_cons_of_mem _ List.mem_cons_self) rfl j hj
          have fD2 : ∀ s : Nat, s < 8 → s ≠ (S p).toNat → r2 (4195394 + 64 * s) = D s := fun s hs hn => ((fD s (by omega)).trans (yb48_d11 r s hs (by omega))).trans (m5 s hs)
          have t1 : (0 : Int) ≤ r 1048704 ∧ r 1048704 ≤ (6 : Int) := hR.2.2.1 _ (List.mem_cons_of_mem _ List.mem_cons_self)
          have hv2 := yb48a_n hv (by omega) (by decide)
          have t0 : (19999 : Int) ≤ r 1048640 ∧ r 1048640 ≤ (19999 : Int) := hR.2.2.1 _ List.mem_cons_self
          have hn : n = 0 := by omega
          subst hn
          exact hE3 (yb48_0 hv2) r2 hr2 G2 (a1049153.trans hZ)
        · have a1048577 : r2 1048577 = r 1048577 := yas hR List.mem_cons_self
          have a1048640 : r2 1048640 = (r 1048640 + (1 : Int)) := yas hR (List.mem_cons_of_mem _ List.mem_cons_self)
          have a1048704 : r2 1048704 = (r 1048704 + (1 : Int)) := yas hR (List.mem_cons_of_mem _ (List.mem_cons_of_mem _ List.mem_cons_self))
          have a1049153 : r2 1049153 = r 1049153 := yas hR (List.mem_cons_of_mem _ (List.mem_cons_of_mem _ (List.mem_cons_of_mem _ List.mem_cons_self)))
          have fS : ∀ j : Nat, j < 16 → r2 (4194310 + 64 * j) = (bif decide (r 1048960 = (j : Int)) then ((0, -1) : ycV) else (0, r (4194310 + 64 * j))).2 := fun j hj => hR.2.1 _ List.mem_cons_self (4194310, 16, 506) List.mem_cons_self rfl j hj
          have fD : ∀ j : Nat, j < 16 → r2 (4195394 + 64 * j) = (xct r (.branch 0 (.leaf (10, .num 4195394)) (.branch 0 (.leaf (10, .num 4195394)) (.branch 0 (.branch 0 (.branch 0 (.leaf (0, .add (.var 4195586) (.num 1))) (.leaf (10, .num 4195394))) (.leaf (10, .num 4195394))) (.leaf (10, .num 4195394))))) j).2 := fun j hj => hR.2.1 _ (List.mem_cons_of_mem _ List.mem_cons_self) (4195394, 16, 505) (List.mem_cons_of_mem _ List.mem_cons_self) rfl j hj
          have fD2 : ∀ s : Nat, s < 8 → s ≠ (S p).toNat → r2 (4195394 + 64 * s) = D s := fun s hs hn => ((fD s (by omega)).trans (yb48_d11 r s hs (by omega))).trans (m5 s hs)
          have t1 : (0 : Int) ≤ r 1048704 ∧ r 1048704 ≤ (6 : Int) := hR.2.2.1 _ (List.mem_cons_of_mem _ List.mem_cons_self)
          have hv2 := yb48a_n hv (by omega) (by decide)
          exact hC r2 w x (f + 1) (yb48u S p (-1)) (fun s => r2 (4195394 + 64 * s)) hr2 G2 (a1049153.trans hZ) ⟨aw, a1048577.trans m2, by omega, fun k hk => yb48_fu (fS k (by omega)) hup rfl (m4 k hk), fun _ _ => rfl, yb48J_step m6 hp (by omega) fD2 (by decide)⟩ (by omega) hv2
      · have hv := yb48w_s hy (by omega)
        have ed : r 4195650 = 0 := (m5 4 (by decide)).trans (by
          have z := m6.2.2.1 p hp (by omega)
          rw [e] at z
          exact z)
        have H1 := xHc (e := .sub (.var 128) (.var 1048960)) (lo := 1) (hi := 16) H (show (1 : Int) ≤ (r 128 - r 1048960) by omega) (show (r 128 - r 1048960) ≤ (16 : Int) by omega)
        have H2 := xHc (e := .var 1049024) (lo := 0) (hi := 0) H1 (show (0 : Int) ≤ r 1049024 by omega) (show r 1049024 ≤ (0 : Int) by omega)
        have H3 := xHc (e := .pow (.sub (.num 4194310) (.var 1048960)) 0) (lo := 4) (hi := 4) H2 (show (4 : Int) ≤ r (4194310 + 64 * (r 1048960).toNat) by omega) (show r (4194310 + 64 * (r 1048960).toNat) ≤ (4 : Int) by omega)
        have H4 := xHc (e := .var 4195650) (lo := 0) (hi := 0) H3 (show (0 : Int) ≤ r 4195650 by omega) (show r 4195650 ≤ (0 : Int) by omega)
        refine yz_run hL yq48_V1s4 hr H4 (xcut_s fun c hc r2 G2 hR => ?_)
        have hr2 : yzr L xs r2 := fun i hi => by rw [hR.2.2.2 i hi]; exact hr i hi
        have aw : r2 128 = w := (hR.2.2.2 128 (by decide)).trans m1
        simp only [List.mem_cons, List.not_mem_nil, or_false] at hc
        rcases hc with rfl | rfl | rfl
        · have a1048640 : r2 1048640 = (r 1048640 + (1 : Int)) := yas hR List.mem_cons_self
          have a1048704 : r2 1048704 = (r 1048704 + (1 : Int)) := yas hR (List.mem_cons_of_mem _ List.mem_cons_self)
          have a1049153 : r2 1049153 = r 1049153 := yas hR (List.mem_cons_of_mem _ (List.mem_cons_of_mem _ List.mem_cons_self))
          have fS : ∀ j : Nat, j < 16 → r2 (4194310 + 64 * j) = (bif decide (r 1048960 = (j : Int)) then ((0, -1) : ycV) else (0, r (4194310 + 64 * j))).2 := fun j hj => hR.2.1 _ List.mem_cons_self (4194310, 16, 506) List.mem_cons_self rfl j hj
          have fD : ∀ j : Nat, j < 16 → r2 (4195394 + 64 * j) = (xct r (.branch 0 (.branch 0 (.branch 0 (.leaf (10, .num 4195394)) (.branch 0 (.branch 0 (.leaf (0, .add (.var 4195650) (.num 1))) (.leaf (10, .num 4195394))) (.leaf (10, .num 4195394)))) (.leaf (10, .num 4195394))) (.leaf (10, .num 4195394))) j).2 := fun j hj => hR.2.1 _ (List.mem_cons_of_mem _ List.mem_cons_self) (4195394, 16, 505) (List.mem_cons_of_mem _ List.mem_cons_self) rfl j hj
          have fD2 : ∀ s : Nat, s < 8 → s ≠ (S p).toNat → r2 (4195394 + 64 * s) = D s := fun s hs hn => ((fD s (by omega)).trans (yb48_d12 r s hs (by omega))).trans (m5 s hs)
          have t0 : (7 : Int) ≤ r 1048704 ∧ r 1048704 ≤ (7 : Int) := hR.2.2.1 _ List.mem_cons_self
          exact hE0 (yb48a_e hv (by omega)) r2 hr2 G2 (a1049153.trans hZ)
        · have a1048640 : r2 1048640 = (r 1048640 + (1 : Int)) := yas hR List.mem_cons_self
          have a1048704 : r2 1048704 = (r 1048704 + (1 : Int)) := yas hR (List.mem_cons_of_mem _ List.mem_cons_self)
          have a1049153 : r2 1049153 = r 1049153 := yas hR (List.mem_cons_of_mem _ (List.mem_cons_of_mem _ List.mem_cons_self))
          have fS : ∀ j : Nat, j < 16 → r2 (4194310 + 64 * j) = (bif decide (r 1048960 = (j : Int)) then ((0, -1) : ycV) else (0, r (4194310 + 64 * j))).2 := fun j hj => hR.2.1 _ List.mem_cons_self (4194310, 16, 506) List.mem_cons_self rfl j hj
          have fD : ∀ j : Nat, j < 16 → r2 (4195394 + 64 * j) = (xct r (.branch 0 (.branch 0 (.branch 0 (.leaf (10, .num 4195394)) (.branch 0 (.branch 0 (.leaf (0, .add (.var 4195650) (.num 1))) (.leaf (10, .num 4195394))) (.leaf (10, .num 4195394)))) (.leaf (10, .num 4195394))) (.leaf (10, .num 4195394))) j).2 := fun j hj => hR.2.1 _ (List.mem_cons_of_mem _ List.mem_cons_self) (4195394, 16, 505) (List.mem_cons_of_mem _ List.mem_cons_self) rfl j hj
          have fD2 : ∀ s : Nat, s < 8 → s ≠ (S p).toNat → r2 (4195394 + 64 * s) = D s := fun s hs hn => ((fD s (by omega)).trans (yb48_d12 r s hs (by omega))).trans (m5 s hs)
          have t1 : (0 : Int) ≤ r 1048704 ∧ r 1048704 ≤ (6 : Int) := hR.2.2.1 _ (List.mem_cons_of_mem _ List.mem_cons_self)
          have hv2 := yb48a_n hv (by omega) (by decide)
          have t0 : (19999 : Int) ≤ r 1048640 ∧ r 1048640 ≤ (19999 : Int) := hR.2.2.1 _ List.mem_cons_self
          have hn : n = 0 := by omega
          subst hn
          exact hE3 (yb48_0 hv2) r2 hr2 G2 (a1049153.trans hZ)
        · have a1048577 : r2 1048577 = r 1048577 := yas hR List.mem_cons_self
          have a1048640 : r2 1048640 = (r 1048640 + (1 : Int)) := yas hR (List.mem_cons_of_mem _ List.mem_cons_self)
          have a1048704 : r2 1048704 = (r 1048704 + (1 : Int)) := yas hR (List.mem_cons_of_mem _ (List.mem_cons_of_mem _ List.mem_cons_self))
          have a1049153 : r2 1049153 = r 1049153 := yas hR (List.mem_cons_of_mem _ (List.mem_cons_of_mem _ (List.mem_cons_of_mem _ List.mem_cons_self)))
          have fS : ∀ j : Nat, j < 16 → r2 (4194310 + 64 * j) = (bif decide (r 1048960 = (j : Int)) then ((0, -1) : ycV) else (0, r (4194310 + 64 * j))).2 := fun j hj => hR.2.1 _ List.mem_cons_self (4194310, 16, 506) List.mem_cons_self rfl j hj
          have fD : ∀ j : Nat, j < 16 → r2 (4195394 + 64 * j) = (xct r (.branch 0 (.branch 0 (.branch 0 (.leaf (10, .num 4195394)) (.branch 0 (.branch 0 (.leaf (0, .add (.var 4195650) (.num 1))) (.leaf (10, .num 4195394))) (.leaf (10, .num 4195394)))) (.leaf (10, .num 4195394))) (.leaf (10, .num 4195394))) j).2 := fun j hj => hR.2.1 _ (List.mem_cons_of_mem _ List.mem_cons_self) (4195394, 16, 505) (List.mem_cons_of_mem _ List.mem_cons_self) rfl j hj
          have fD2 : ∀ s : Nat, s < 8 → s ≠ (S p).toNat → r2 (4195394 + 64 * s) = D s := fun s hs hn => ((fD s (by omega)).trans (yb48_d12 r s hs (by omega))).trans (m5 s hs)
          have t1 : (0 : Int) ≤ r 1048704 ∧ r 1048704 ≤ (6 : Int) := hR.2.2.1 _ (List.mem_cons_of_mem _ List.mem_cons_self)
          have hv2 := yb48a_n hv (by omega) (by decide)
          exact hC r2 w x (f + 1) (yb48u S p (-1)) (fun s => r2 (4195394 + 64 * s)) hr2 G2 (a1049153.trans hZ) ⟨aw, a1048577.trans m2, by omega, fun k hk => yb48_fu (fS k (by omega)) hup rfl (m4 k hk), fun _ _ => rfl, yb48J_step m6 hp (by omega) fD2 (by decide)⟩ (by omega) hv2
      · have hv := yb48w_s hy (by omega)
        have ed : r 4195714 = 0 := (m5 5 (by decide)).trans (by
          have z := m6.2.2.1 p hp (by omega)
          rw [e] at z
          exact z)
        have H1 := xHc (e := .sub (.var 128) (.var 1048960)) (lo := 1) (hi := 16) H (show (1 : Int) ≤ (r 128 - r 1048960) by omega) (show (r 128 - r 1048960) ≤ (16 : Int) by omega)
        have H2 := xHc (e := .var 1049024) (lo := 0) (hi := 0) H1 (show (0 : Int) ≤ r 1049024 by omega) (show r 1049024 ≤ (0 : Int) by omega)
        have H3 := xHc (e := .pow (.sub (.num 4194310) (.var 1048960)) 0) (lo := 5) (hi := 5) H2 (show (5 : Int) ≤ r (4194310 + 64 * (r 1048960).toNat) by omega) (show r (4194310 + 64 * (r 1048960).toNat) ≤ (5 : Int) by omega)
        have H4 := xHc (e := .var 4195714) (lo := 0) (hi := 0) H3 (show (0 : Int) ≤ r 4195714 by omega) (show r 4195714 ≤ (0 : Int) by omega)
        refine yz_run hL yq48_V1s5 hr H4 (xcut_s fun c hc r2 G2 hR => ?_)
        have hr2 : yzr L xs r2 := fun i hi => by rw [hR.2.2.2 i hi]; exact hr i hi
        have aw : r2 128 = w := (hR.2.2.2 128 (by decide)).trans m1
        simp only [List.mem_cons, List.not_mem_nil, or_false] at hc
        rcases hc with rfl | rfl | rfl
        · have a1048640 : r2 1048640 = (r 1048640 + (1 : Int)) := yas hR List.mem_cons_self
          have a1048704 : r2 1048704 = (r 1048704 + (1 : Int)) := yas hR (List.mem_cons_of_mem _ List.mem_cons_self)
          have a1049153 : r2 1049153 = r 1049153 := yas hR (List.mem_cons_of_mem _ (List.mem_cons_of_mem _ List.mem_cons_self))
          have fS : ∀ j : Nat, j < 16 → r2 (4194310 + 64 * j) = (bif decide (r 1048960 = (j : Int)) then ((0, -1) : ycV) else (0, r (4194310 + 64 * j))).2 := fun j hj => hR.2.1 _ List.mem_cons_self (4194310, 16, 506) List.mem_cons_self rfl j hj
          have fD : ∀ j : Nat, j < 16 → r2 (4195394 + 64 * j) = (xct r (.branch 0 (.leaf (10, .num 4195394)) (.branch 0 (.branch 0 (.leaf (10, .num 4195394)) (.branch 0 (.branch 0 (.leaf (0, .add (.var 4195714) (.num 1))) (.leaf (10, .num 4195394))) (.leaf (10, .num 4195394)))) (.leaf (10, .num 4195394)))) j).2 := fun j hj => hR.2.1 _ (List.mem_cons_of_mem _ List.mem_cons_self) (4195394, 16, 505) (List.mem_cons_of_mem _ List.mem_cons_self) rfl j hj
          have fD2 : ∀ s : Nat, s < 8 → s ≠ (S p).toNat → r2 (4195394 + 64 * s) = D s := fun s hs hn => ((fD s (by omega)).trans (yb48_d13 r s hs (by omega))).trans (m5 s hs)
          have t0 : (7 : Int) ≤ r 1048704 ∧ r 1048704 ≤ (7 : Int) := hR.2.2.1 _ List.mem_cons_self
          exact hE0 (yb48a_e hv (by omega)) r2 hr2 G2 (a1049153.trans hZ)
        · have a1048640 : r2 1048640 = (r 1048640 + (1 : Int)) := yas hR List.mem_cons_self
          have a1048704 : r2 1048704 = (r 1048704 + (1 : Int)) := yas hR (List.mem_cons_of_mem _ List.mem_cons_self)
          have a1049153 : r2 1049153 = r 1049153 := yas hR (List.mem_cons_of_mem _ (List.mem_cons_of_mem _ List.mem_cons_self))
          have fS : ∀ j : Nat, j < 16 → r2 (4194310 + 64 * j) = (bif decide (r 1048960 = (j : Int)) then ((0, -1) : ycV) else (0, r (4194310 + 64 * j))).2 := fun j hj => hR.2.1 _ List.mem_cons_self (4194310, 16, 506) List.mem_cons_self rfl j hj
          have fD : ∀ j : Nat, j < 16 → r2 (4195394 + 64 * j) = (xct r (.branch 0 (.leaf (10, .num 4195394)) (.branch 0 (.branch 0 (.leaf (10, .num 4195394)) (.branch 0 (.branch 0 (.leaf (0, .add (.var 4195714) (.num 1))) (.leaf (10, .num 4195394))) (.leaf (10, .num 4195394)))) (.leaf (10, .num 4195394)))) j).2 := fun j hj => hR.2.1 _ (List.mem_cons_of_mem _ List.mem_cons_self) (4195394, 16, 505) (List.mem_cons_of_mem _ List.mem_cons_self) rfl j hj
          have fD2 : ∀ s : Nat, s < 8 → s ≠ (S p).toNat → r2 (4195394 + 64 * s) = D s := fun s hs hn => ((fD s (by omega)).trans (yb48_d13 r s hs (by omega))).trans (m5 s hs)
          have t1 : (0 : Int) ≤ r 1048704 ∧ r 1048704 ≤ (6 : Int) := hR.2.2.1 _ (List.mem_cons_of_mem _ List.mem_cons_self)
          have hv2 := yb48a_n hv (by omega) (by decide)
          have t0 : (19999 : Int) ≤ r 1048640 ∧ r 1048640 ≤ (19999 : Int) := hR.2.2.1 _ List.mem_cons_self
          have hn : n = 0 := by omega
          subst hn
          exact hE3 (yb48_0 hv2) r2 hr2 G2 (a1049153.trans hZ)
        · have a1048577 : r2 1048577 = r 1048577 := yas hR List.mem_cons_self
          have a1048640 : r2 1048640 = (r 1048640 + (1 : Int)) := yas hR (List.mem_cons_of_mem _ List.mem_cons_self)
          have a1048704 : r2 1048704 = (r 1048704 + (1 : Int)) := yas hR (List.mem_cons_of_mem _ (List.mem_cons_of_mem _ List.mem_cons_self))
          have a1049153 : r2 1049153 = r 1049153 := yas hR (List.mem_cons_of_mem _ (List.mem_cons_of_mem _ (List.mem_cons_of_mem _ List.mem_cons_self)))
          have fS : ∀ j : Nat, j < 16 → r2 (4194310 + 64 * j) = (bif decide (r 1048960 = (j : Int)) then ((0, -1) : ycV) else (0, r (4194310 + 64 * j))).2 := fun j hj => hR.2.1 _ List.mem_cons_self (4194310, 16, 506) List.mem_cons_self rfl j hj
          have fD : ∀ j : Nat, j < 16 → r2 (4195394 + 64 * j) = (xct r (.branch 0 (.leaf (10, .num 4195394)) (.branch 0 (.branch 0 (.leaf (10, .num 4195394)) (.branch 0 (.branch 0 (.leaf (0, .add (.var 4195714) (.num 1))) (.leaf (10, .num 4195394))) (.leaf (10, .num 4195394)))) (.leaf (10, .num 4195394)))) j).2 := fun j hj => hR.2.1 _ (List.mem_cons_of_mem _ List.mem_cons_self) (4195394, 16, 505) (List.mem_cons_of_mem _ List.mem_cons_self) rfl j hj
          have fD2 : ∀ s : Nat, s < 8 → s ≠ (S p).toNat → r2 (4195394 + 64 * s) = D s := fun s hs hn => ((fD s (by omega)).trans (yb48_d13 r s hs (by omega))).trans (m5 s hs)
          have t1 : (0 : Int) ≤ r 1048704 ∧ r 1048704 ≤ (6 : Int) := hR.2.2.1 _ (List.mem_cons_of_mem _ List.mem_cons_self)
          have hv2 := yb48a_n hv (by omega) (by decide)
          exact hC r2 w x (f + 1) (yb48u S p (-1)) (fun s => r2 (4195394 + 64 * s)) hr2 G2 (a1049153.trans hZ) ⟨aw, a1048577.trans m2, by omega, fun k hk => yb48_fu (fS k (by omega)) hup rfl (m4 k hk), fun _ _ => rfl, yb48J_step m6 hp (by omega) fD2 (by decide)⟩ (by omega) hv2
      · have hv := yb48w_s hy (by omega)
        have ed : r 4195778 = 0 := (m5 6 (by decide)).trans (by
          have z := m6.2.2.1 p hp (by omega)
          rw [e] at z
          exact z)
        have H1 := xHc (e := .sub (.var 128) (.var 1048960)) (lo := 1) (hi := 16) H (show (1 : Int) ≤ (r 128 - r 1048960) by omega) (show (r 128 - r 1048960) ≤ (16 : Int) by omega)
        have H2 := xHc (e := .var 1049024) (lo := 0) (hi := 0) H1 (show (0 : Int) ≤ r 1049024 by omega) (show r 1049024 ≤ (0 : Int) by omega)
        have H3 := xHc (e := .pow (.sub (.num 4194310) (.var 1048960)) 0) (lo := 6) (hi := 6) H2 (show (6 : Int) ≤ r (4194310 + 64 * (r 1048960).toNat) by omega) (show r (4194310 + 64 * (r 1048960).toNat) ≤ (6 : Int) by omega)
        have H4 := xHc (e := .var 4195778) (lo := 0) (hi := 0) H3 (show (0 : Int) ≤ r 4195778 by omega) (show r 4195778 ≤ (0 : Int) by omega)
        refine yz_run hL yq48_V1s6 hr H4 (xcut_s fun c hc r2 G2 hR => ?_)
        have hr2 : yzr L xs r2 := fun i hi => by rw [hR.2.2.2 i hi]; exact hr i hi
        have aw : r2 128 = w := (hR.2.2.2 128 (by decide)).trans m1
        simp only [List.mem_cons, List.not_mem_nil, or_false] at hc
        rcases hc with rfl | rfl | rfl
        · have a1048640 : r2 1048640 = (r 1048640 + (1 : Int)) := yas hR List.mem_cons_self
          have a1048704 : r2 1048704 = (r 1048704 + (1 : Int)) := yas hR (List.mem_cons_of_mem _ List.mem_cons_self)
          have a1049153 : r2 1049153 = r 1049153 := yas hR (List.mem_cons_of_mem _ (List.mem_cons_of_mem _ List.mem_cons_self))
          have fS : ∀ j : Nat, j < 16 → r2 (4194310 + 64 * j) = (bif decide (r 1048960 = (j : Int)) then ((0, -1) : ycV) else (0, r (4194310 + 64 * j))).2 := fun j hj => hR.2.1 _ List.mem_cons_self (4194310, 16, 506) List.mem_cons_self rfl j hj
          have fD : ∀ j : Nat, j < 16 → r2 (4195394 + 64 * j) = (xct r (.branch 0 (.branch 0 (.leaf (10, .num 4195394)) (.branch 0 (.leaf (10, .num 4195394)) (.branch 0 (.branch 0 (.leaf (0, .add (.var 4195778) (.num 1))) (.leaf (10, .num 4195394))) (.leaf (10, .num 4195394))))) (.leaf (10, .num 4195394))) j).2 := fun j hj => hR.2.1 _ (List.mem_cons_of_mem _ List.mem_cons_self) (4195394, 16, 505) (List.mem_cons_of_mem _ List.mem_cons_self) rfl j hj
          have fD2 : ∀ s : Nat, s < 8 → s ≠ (S p).toNat → r2 (4195394 + 64 * s) = D s := fun s hs hn => ((fD s (by omega)).trans (yb48_d14 r s hs (by omega))).trans (m5 s hs)
          have t0 : (7 : Int) ≤ r 1048704 ∧ r 1048704 ≤ (7 : Int) := hR.2.2.1 _ List.mem_cons_self
          exact hE0 (yb48a_e hv (by omega)) r2 hr2 G2 (a1049153.trans hZ)
        · have a1048640 : r2 1048640 = (r 1048640 + (1 : Int)) := yas hR List.mem_cons_self
          have a1048704 : r2 1048704 = (r 1048704 + (1 : Int)) := yas hR (List.mem_cons_of_mem _ List.mem_cons_self)
          have a1049153 : r2 1049153 = r 1049153 := yas hR (List.mem_cons_of_mem _ (List.mem_cons_of_mem _ List.mem_cons_self))
          have fS : ∀ j : Nat, j < 16 → r2 (4194310 + 64 * j) = (bif decide (r 1048960 = (j : Int)) then ((0, -1) : ycV) else (0, r (4194310 + 64 * j))).2 := fun j hj => hR.2.1 _ List.mem_cons_self (4194310, 16, 506) List.mem_cons_self rfl j hj
          have fD : ∀ j : Nat, j < 16 → r2 (4195394 + 64 * j) = (xct r (.branch 0 (.branch 0 (.leaf (10, .num 4195394)) (.branch 0 (.leaf (10, .num 4195394)) (.branch 0 (.branch 0 (.leaf (0, .add (.var 4195778) (.num 1))) (.leaf (10, .num 4195394))) (.leaf (10, .num 4195394))))) (.leaf (10, .num 4195394))) j).2 := fun j hj => hR.2.1 _ (List.mem_cons_of_mem _ List.mem_cons_self) (4195394, 16, 505) (List.mem_cons_of_mem _ List.mem_cons_self) rfl j hj
          have fD2 : ∀ s : Nat, s < 8 → s ≠ (S p).toNat → r2 (4195394 + 64 * s) = D s := fun s hs hn => ((fD s (by omega)).trans (yb48_d14 r s hs (by omega))).trans (m5 s hs)
          have t1 : (0 : Int) ≤ r 1048704 ∧ r 1048704 ≤ (6 : Int) := hR.2.2.1 _ (List.mem_cons_of_mem _ List.mem_cons_self)
          have hv2 := yb48a_n hv (by omega) (by decide)
          have t0 : (19999 : Int) ≤ r 1048640 ∧ r 1048640 ≤ (19999 : Int) := hR.2.2.1 _ List.mem_cons_self
          have hn : n = 0 := by omega
          subst hn
          exact hE3 (yb48_0 hv2) r2 hr2 G2 (a1049153.trans hZ)
        · have a1048577 : r2 1048577 = r 1048577 := yas hR List.mem_cons_self
          have a1048640 : r2 1048640 = (r 1048640 + (1 : Int)) := yas hR (List.mem_cons_of_mem _ List.mem_cons_self)
          have a1048704 : r2 1048704 = (r 1048704 + (1 : Int)) := yas hR (List.mem_cons_of_mem _ (List.mem_cons_of_mem _ List.mem_cons_self))
          have a1049153 : r2 1049153 = r 1049153 := yas hR (List.mem_cons_of_mem _ (List.mem_cons_of_mem _ (List.mem_cons_of_mem _ List.mem_cons_self)))
          have fS : ∀ j : Nat, j < 16 → r2 (4194310 + 64 * j) = (bif decide (r 1048960 = (j : Int)) then ((0, -1) : ycV) else (0, r (4194310 + 64 * j))).2 := fun j hj => hR.2.1 _ List.mem_cons_self (4194310, 16, 506) List.mem_cons_self rfl j hj
          have fD : ∀ j : Nat, j < 16 → r2 (4195394 + 64 * j) = (xct r (.branch 0 (.branch 0 (.leaf (10, .num 4195394)) (.branch 0 (.leaf (10, .num 4195394)) (.branch 0 (.branch 0 (.leaf (0, .add (.var 4195778) (.num 1))) (.leaf (10, .num 4195394))) (.leaf (10, .num 4195394))))) (.leaf (10, .num 4195394))) j).2 := fun j hj => hR.2.1 _ (List.mem_cons_of_mem _ List.mem_cons_self) (4195394, 16, 505) (List.mem_cons_of_mem _ List.mem_cons_self) rfl j hj
          have fD2 : ∀ s : Nat, s < 8 → s ≠ (S p).toNat → r2 (4195394 + 64 * s) = D s := fun s hs hn => ((fD s (by omega)).trans (yb48_d14 r s hs (by omega))).trans (m5 s hs)
          have t1 : (0 : Int) ≤ r 1048704 ∧ r 1048704 ≤ (6 : Int) := hR.2.2.1 _ (List.mem_cons_of_mem _ List.mem_cons_self)
          have hv2 := yb48a_n hv (by omega) (by decide)
          exact hC r2 w x (f + 1) (yb48u S p (-1)) (fun s => r2 (4195394 + 64 * s)) hr2 G2 (a1049153.trans hZ) ⟨aw, a1048577.trans m2, by omega, fun k hk => yb48_fu (fS k (by omega)) hup rfl (m4 k hk), fun _ _ => rfl, yb48J_step m6 hp (by omega) fD2 (by decide)⟩ (by omega) hv2
    · have H1 := xHc (e := .sub (.var 128) (.var 1048960)) (lo := 2) (hi := 16) H (show (2 : Int) ≤ (r 128 - r 1048960) by omega) (show (r 128 - r 1048960) ≤ (16 : Int) by omega)
      have H2 := xHc (e := .var 1049024) (lo := 1) (hi := 15) H1 (show (1 : Int) ≤ r 1049024 by omega) (show r 1049024 ≤ (15 : Int) by omega)
      refine yz_run hL yq48_V1n hr H2 (xcut_s fun c hc r2 G2 hR => ?_)
      have hr2 : yzr L xs r2 := fun i hi => by rw [hR.2.2.2 i hi]; exact hr i hi
      have aw : r2 128 = w := (hR.2.2.2 128 (by decide)).trans m1
      rw [List.mem_singleton] at hc
      subst hc
      have a1048577 : r2 1048577 = r 1048577 := yas hR List.mem_cons_self
      have a1049024 : r2 1049024 = (r 1049024 + (-1 : Int)) := yas hR (List.mem_cons_of_mem _ List.mem_cons_self)
      have a1048960 : r2 1048960 = (r 1048960 + (1 : Int)) := yas hR (List.mem_cons_of_mem _ (List.mem_cons_of_mem _ List.mem_cons_self))
      have a1048640 : r2 1048640 = r 1048640 := yas hR (List.mem_cons_of_mem _ (List.mem_cons_of_mem _ (List.mem_cons_of_mem _ List.mem_cons_self)))
      have a1048704 : r2 1048704 = r 1048704 := yas hR (List.mem_cons_of_mem _ (List.mem_cons_of_mem _ (List.mem_cons_of_mem _ (List.mem_cons_of_mem _ List.mem_cons_self))))
      have a1049153 : r2 1049153 = r 1049153 := yas hR (List.mem_cons_of_mem _ (List.mem_cons_of_mem _ (List.mem_cons_of_mem _ (List.mem_cons_of_mem _ (List.mem_cons_of_mem _ List.mem_cons_self)))))
      have fS : ∀ j : Nat, j < 16 → r2 (4194310 + 64 * j) = r (4194310 + 64 * j) := fun j hj => hR.2.1 _ List.mem_cons_self (4194310, 16, 506) List.mem_cons_self rfl j hj
      have fD : ∀ j : Nat, j < 16 → r2 (4195394 + 64 * j) = r (4195394 + 64 * j) := fun j hj => hR.2.1 _ (List.mem_cons_of_mem _ List.mem_cons_self) (4195394, 16, 505) (List.mem_cons_of_mem _ List.mem_cons_self) rfl j hj
      exact ih r2 hr2 G2 (a1049153.trans hZ) ⟨aw, a1048577.trans m2, a1048704.trans m3, fun k hk => (fS k (by omega)).trans (m4 k hk), fun s hs => (fD s (by omega)).trans (m5 s hs), m6⟩ (by omega) (by omega) (by omega)
theorem y48_R2 {L : Nat} {xs : Nat → Int32} (hL : L ≤ 3584) {y0 : Int} {n : Nat} (hW : yb48V L xs (yZ1 y0) y0 yt48_V2 yF48_V2 n 2) : yb48C L xs (yZ1 y0) y0 yt48_R2 yF48_R2 (n + 1) 2 := by
  intro r w x f S D hr H hZ hM hT hy
  obtain ⟨m1, m2, m3, m4, m5, m6⟩ := hM
  have hw : 1 ≤ r 128 ∧ r 128 ≤ 16 := xbd_s H (e := .var 128) (lo := 1) (hi := 16) (by decide +kernel)
  have hw2 : 1 ≤ w ∧ w ≤ 16 := by omega
  have H1 := xHc (e := .sub (.var 128) (.pow (.add (.pow (.add (.pow (.add (.pow (.add (.var 1048577) (.num 6364136223846793005)) 38) (.num 1442695040888963407)) 36) (.num 33)) 51) (.var 128)) 40)) (lo := 1) (hi := 16) H (by rw [xden_sub, xden_var, yb48P_d, m1, m2]; exact (yb48_w1 (yb48P_r hw2.1 hw2.2) hw2.2).1) (by rw [xden_sub, xden_var, yb48P_d, m1, m2]; exact (yb48_w1 (yb48P_r hw2.1 hw2.2) hw2.2).2)
  refine yz_run hL yq48_R2 hr H1 (xcut_s fun c hc r2 G2 hR => ?_)
  have hr2 : yzr L xs r2 := fun i hi => by rw [hR.2.2.2 i hi]; exact hr i hi
  have aw : r2 128 = w := (hR.2.2.2 128 (by decide)).trans m1
  rw [List.mem_singleton] at hc
  subst hc
  have a1048960 : r2 1048960 = (0 : Int) := yas hR (List.mem_cons_of_mem _ (List.mem_cons_of_mem _ List.mem_cons_self))
  have a1048640 : r2 1048640 = r 1048640 := yas hR (List.mem_cons_of_mem _ (List.mem_cons_of_mem _ (List.mem_cons_of_mem _ List.mem_cons_self)))
  have a1048704 : r2 1048704 = r 1048704 := yas hR (List.mem_cons_of_mem _ (List.mem_cons_of_mem _ (List.mem_cons_of_mem _ (List.mem_cons_of_mem _ List.mem_cons_self))))
  have a1049153 : r2 1049153 = r 1049153 := yas hR (List.mem_cons_of_mem _ (List.mem_cons_of_mem _ (List.mem_cons_of_mem _ (List.mem_cons_of_mem _ (List.mem_cons_of_mem _ List.mem_cons_self)))))
  have fS : ∀ j : Nat, j < 16 → r2 (4194310 + 64 * j) = r (4194310 + 64 * j) := fun j hj => hR.2.1 _ List.mem_cons_self (4194310, 16, 506) List.mem_cons_self rfl j hj
  have fD : ∀ j : Nat, j < 16 → r2 (4195394 + 64 * j) = r (4195394 + 64 * j) := fun j hj => hR.2.1 _ (List.mem_cons_of_mem _ List.mem_cons_self) (4195394, 16, 505) (List.mem_cons_of_mem _ List.mem_cons_self) rfl j hj
  have o1 := hT
  have gS : ∀ k : Nat, (k : Int) < w → r2 (4194310 + 64 * k) = S k := fun k hk => (fS k (by omega)).trans (m4 k hk)
  have gD : ∀ s : Nat, s < 8 → r2 (4195394 + 64 * s) = D s := fun s hs => (fD s (by omega)).trans (m5 s hs)
  have gT : r2 1048640 + (n : Int) + 1 = 20000 := by omega
  have a1048577 : r2 1048577 = yb48X (r 1048577) := (yas hR List.mem_cons_self).trans (yb48X_d r)
  have a1049024 : r2 1049024 = yb48P (r 128) (r 1048577) := (yas hR (List.mem_cons_of_mem _ List.mem_cons_self)).trans (yb48P_d r)
  exact hW r2 w (yb48X x) f S D (yb48P w x).toNat hr2 G2 (a1049153.trans hZ) ⟨aw, by rw [a1048577, m2], a1048704.trans m3, gS, gD, m6⟩ gT (yb48_w2 (yb48P_r hw2.1 hw2.2)) (by rw [a1049024, a1048960, m1, m2]; exact yb48_w4 (yb48P_r hw2.1 hw2.2)) (yb48_t hy)
theorem y48_V2 {L : Nat} {xs : Nat → Int32} (hL : L ≤ 3584) {y0 : Int} {n : Nat} (hC : yb48C L xs (yZ1 y0) y0 yt48_R2 yF48_R2 n 2) (hC1 : yb48C L xs (yZ1 y0) y0 yt48_R1 yF48_R1 n 1) (hE0 : yb48E L xs (yZ1 y0) y0 (0) yt48_X0 yF48_X0) (hE3 : yb48E L xs (yZ1 y0) y0 (-3) yt48_X3 yF48_X3) : yb48V L xs (yZ1 y0) y0 yt48_V2 yF48_V2 n 2 := by
  intro r w x f S D p hr H hZ hM hT hp hP hy
  suffices main : ∀ d : Nat, ∀ r, yzr L xs r → xH r yF48_V2 → (yZ1 y0) r → yb48M r w 2 x f S D → r 1048640 + (n : Int) + 1 = 20000 → r 1049024 + r 1048960 = (p : Int) → r 1049024 < (d : Int) → xGl (yfT (ykold L xs)) r yzP yt48_V2 from
    main 16 r hr H hZ hM hT hP (by
      have hPb : 0 ≤ r 1049024 ∧ r 1049024 ≤ 15 := xbd_s H (e := .var 1049024) (lo := 0) (hi := 15) (by decide +kernel)
      omega)
  intro d
  induction d with
  | zero =>
    intro r hr H hZ hM hT hP hd
    have hPb : 0 ≤ r 1049024 ∧ r 1049024 ≤ 15 := xbd_s H (e := .var 1049024) (lo := 0) (hi := 15) (by decide +kernel)
    omega
  | succ d ih =>
    intro r hr H hZ hM hT hP hd
    have hPb : 0 ≤ r 1049024 ∧ r 1049024 ≤ 15 := xbd_s H (e := .var 1049024) (lo := 0) (hi := 15) (by decide +kernel)
    obtain ⟨m1, m2, m3, m4, m5, m6⟩ := hM
    have hw : 1 ≤ r 128 ∧ r 128 ≤ 16 := xbd_s H (e := .var 128) (lo := 1) (hi := 16) (by decide +kernel)
    have hu : 0 ≤ r 1048960 ∧ r 1048960 ≤ 15 := xbd_s H (e := .var 1048960) (lo := 0) (hi := 15) (by decide +kernel)
    have hf : 0 ≤ r 1048704 ∧ r 1048704 ≤ 7 := xbd_s H (e := .var 1048704) (lo := 0) (hi := 7) (by decide +kernel)
    by_cases hup0 : r 1049024 = 0
    · have hup : r 1048960 = (p : Int) := by omega
      have es : r (4194310 + 64 * (r 1048960).toNat) = S p := by
        have e0 : (r 1048960).toNat = p := by omega
        rw [e0]
        exact m4 p hp
      have j1 := m6.1 p hp
      have e : S p = -1 ∨ S p = 0 ∨ S p = 1 ∨ S p = 2 ∨ S p = 3 ∨ S p = 4 ∨ S p = 5 := by omega
      rcases e with e | e | e | e | e | e | e
      · have hv := yb48w_t (q := 1) hy e
        have hv2 := yb48a_n hv (by omega) (by decide)
        have H1 := xHc (e := .sub (.var 128) (.var 1048960)) (lo := 1) (hi := 16) H (show (1 : Int) ≤ (r 128 - r 1048960) by omega) (show (r 128 - r 1048960) ≤ (16 : Int) by omega)
        have H2 := xHc (e := .var 1049024) (lo := 0) (hi := 0) H1 (show (0 : Int) ≤ r 1049024 by omega) (show r 1049024 ≤ (0 : Int) by omega)
        have H3 := xHc (e := .pow (.sub (.num 4194310) (.var 1048960)) 0) (lo := -1) (hi := -1) H2 (show (-1 : Int) ≤ r (4194310 + 64 * (r 1048960).toNat) by omega) (show r (4194310 + 64 * (r 1048960).toNat) ≤ (-1 : Int) by omega)
        refine yz_run hL yq48_V2t hr H3 (xcut_s fun c hc r2 G2 hR => ?_)
        have hr2 : yzr L xs r2 := fun i hi => by rw [hR.2.2.2 i hi]; exact hr i hi
        have aw : r2 128 = w := (hR.2.2.2 128 (by decide)).trans m1
        simp only [List.mem_cons, List.not_mem_nil, or_false] at hc
        rcases hc with rfl | rfl
        · have a1048640 : r2 1048640 = (r 1048640 + (1 : Int)) := yas hR List.mem_cons_self
          have a1048704 : r2 1048704 = r 1048704 := yas hR (List.mem_cons_of_mem _ List.mem_cons_self)
          have a1049153 : r2 1049153 = r 1049153 := yas hR (List.mem_cons_of_mem _ (List.mem_cons_of_mem _ List.mem_cons_self))
          have fS : ∀ j : Nat, j < 16 → r2 (4194310 + 64 * j) = (bif decide (r 1048960 = (j : Int)) then ((0, 6) : ycV) else (0, r (4194310 + 64 * j))).2 := fun j hj => hR.2.1 _ List.mem_cons_self (4194310, 16, 506) List.mem_cons_self rfl j hj
          have fD : ∀ j : Nat, j < 16 → r2 (4195394 + 64 * j) = r (4195394 + 64 * j) := fun j hj => hR.2.1 _ (List.mem_cons_of_mem _ List.mem_cons_self) (4195394, 16, 505) (List.mem_cons_of_mem _ List.mem_cons_self) rfl j hj
          have t0 : (19999 : Int) ≤ r 1048640 ∧ r 1048640 ≤ (19999 : Int) := hR.2.2.1 _ List.mem_cons_self
          have hn : n = 0 := by omega
          subst hn
          exact hE3 (yb48_0 hv2) r2 hr2 G2 (a1049153.trans hZ)
        · have a1048577 : r2 1048577 = r 1048577 := yas hR List.mem_cons_self
          have a1048640 : r2 1048640 = (r 1048640 + (1 : Int)) := yas hR (List.mem_cons_of_mem _ List.mem_cons_self)
          have a1048704 : r2 1048704 = r 1048704 := yas hR (List.mem_cons_of_mem _ (List.mem_cons_of_mem _ List.mem_cons_self))
          have a1049153 : r2 1049153 = r 1049153 := yas hR (List.mem_cons_of_mem _ (List.mem_cons_of_mem _ (List.mem_cons_of_mem _ List.mem_cons_self)))
          have fS : ∀ j : Nat, j < 16 → r2 (4194310 + 64 * j) = (bif decide (r 1048960 = (j : Int)) then ((0, 6) : ycV) else (0, r (4194310 + 64 * j))).2 := fun j hj => hR.2.1 _ List.mem_cons_self (4194310, 16, 506) List.mem_cons_self rfl j hj
          have fD : ∀ j : Nat, j < 16 → r2 (4195394 + 64 * j) = r (4195394 + 64 * j) := fun j hj => hR.2.1 _ (List.mem_cons_of_mem _ List.mem_cons_self) (4195394, 16, 505) (List.mem_cons_of_mem _ List.mem_cons_self) rfl j hj
          exact hC1 r2 w x f (yb48u S p (8 - ((1 + 1 : Nat) : Int))) D hr2 G2 (a1049153.trans hZ) ⟨aw, a1048577.trans m2, a1048704.trans m3, fun k hk => yb48_fu (fS k (by omega)) hup (by decide) (m4 k hk), fun s hs => (fD s (by omega)).trans (m5 s hs), yb48J_take m6 hp (by decide)⟩ (by omega) hv2
      · have hv := yb48w_s hy (by omega)
        have ed : r 4195394 = 0 := (m5 0 (by decide)).trans (by
          have z := m6.2.2.1 p hp (by omega)
          rw [e] at z
          exact z)
        have H1 := xHc (e := .sub (.var 128) (.var 1048960)) (lo := 1) (hi := 16) H (show (1 : Int) ≤ (r 128 - r 1048960) by omega) (show (r 128 - r 1048960) ≤ (16 : Int) by omega)
        have H2 := xHc (e := .var 1049024) (lo := 0) (hi := 0) H1 (show (0 : Int) ≤ r 1049024 by omega) (show r 1049024 ≤ (0 : Int) by omega)
        have H3 := xHc (e := .pow (.sub (.num 4194310) (.var 1048960)) 0) (lo := 0) (hi := 0) H2 (show (0 : Int) ≤ r (4194310 + 64 * (r 1048960).toNat) by omega) (show r (4194310 + 64 * (r 1048960).toNat) ≤ (0 : Int) by omega)
        have H4 := xHc (e := .var 4195394) (lo := 0) (hi := 0) H3 (show (0 : Int) ≤ r 4195394 by omega) (show r 4195394 ≤ (0 : Int) by omega)
        refine yz_run hL yq48_V2s0 hr H4 (xcut_s fun c hc r2 G2 hR => ?_)
        have hr2 : yzr L xs r2 := fun i hi => by rw [hR.2.2.2 i hi]; exact hr i hi
        have aw : r2 128 = w := (hR.2.2.2 128 (by decide)).trans m1
        simp only [List.mem_cons, List.not_mem_nil, or_false] at hc
        rcases hc with rfl | rfl | rfl
        · have a1048640 : r2 1048640 = (r 1048640 + (1 : Int)) := yas hR List.mem_cons_self
          have a1048704 : r2 1048704 = (r 1048704 + (1 : Int)) := yas hR (List.mem_cons_of_mem _ List.mem_cons_self)
          have a1049153 : r2 1049153 = r 1049153 := yas hR (List.mem_cons_of_mem _ (List.mem_cons_of_mem _ List.mem_cons_self))
          have fS : ∀ j : Nat, j < 16 → r2 (4194310 + 64 * j) = (bif decide (r 1048960 = (j : Int)) then ((0, -1) : ycV) else (0, r (4194310 + 64 * j))).2 := fun j hj => hR.2.1 _ List.mem_cons_self (4194310, 16, 506) List.mem_cons_self rfl j hj
          have fD : ∀ j : Nat, j < 16 → r2 (4195394 + 64 * j) = (xct r (.branch 0 (.branch 0 (.branch 0 (.branch 0 (.branch 0 (.leaf (0, .add (.var 4195394) (.num 1))) (.leaf (10, .num 4195394))) (.leaf (10, .num 4195394))) (.leaf (10, .num 4195394))) (.leaf (10, .num 4195394))) (.leaf (10, .num 4195394))) j).2 := fun j hj => hR.2.1 _ (List.mem_cons_of_mem _ List.mem_cons_self) (4195394, 16, 505) (List.mem_cons_of_mem _ List.mem_cons_self) rfl j hj
          have fD2 : ∀ s : Nat, s < 8 → s ≠ (S p).toNat → r2 (4195394 + 64 * s) = D s := fun s hs hn => ((fD s (by omega)).trans (yb48_d8 r s hs (by omega))).trans (m5 s hs)
          have t0 : (7 : Int) ≤ r 1048704 ∧ r 1048704 ≤ (7 : Int) := hR.2.2.1 _ List.mem_cons_self
          exact hE0 (yb48a_e hv (by omega)) r2 hr2 G2 (a1049153.trans hZ)
        · have a1048640 : r2 1048640 = (r 1048640 + (1 : Int)) := yas hR List.mem_cons_self
          have a1048704 : r2 1048704 = (r 1048704 + (1 : Int)) := yas hR (List.mem_cons_of_mem _ List.mem_cons_self)
          have a1049153 : r2 1049153 = r 1049153 := yas hR (List.mem_cons_of_mem _ (List.mem_cons_of_mem _ List.mem_cons_self))
          have fS : ∀ j : Nat, j < 16 → r2 (4194310 + 64 * j) = (bif decide (r 1048960 = (j : Int)) then ((0, -1) : ycV) else (0, r (4194310 + 64 * j))).2 := fun j hj => hR.2.1 _ List.mem_cons_self (4194310, 16, 506) List.mem_cons_self rfl j hj
          have fD : ∀ j : Nat, j < 16 → r2 (4195394 + 64 * j) = (xct r (.branch 0 (.branch 0 (.branch 0 (.branch 0 (.branch 0 (.leaf (0, .add (.var 4195394) (.num 1))) (.leaf (10, .num 4195394))) (.leaf (10, .num 4195394))) (.leaf (10, .num 4195394))) (.leaf (10, .num 4195394))) (.leaf (10, .num 4195394))) j).2 := fun j hj => hR.2.1 _ (List.mem_cons_of_mem _ List.mem_cons_self) (4195394, 16, 505) (List.mem_cons_of_mem _ List.mem_cons_self) rfl j hj
          have fD2 : ∀ s : Nat, s < 8 → s ≠ (S p).toNat → r2 (4195394 + 64 * s) = D s := fun s hs hn => ((fD s (by omega)).trans (yb48_d8 r s hs (by omega))).trans (m5 s hs)
          have t1 : (0 : Int) ≤ r 1048704 ∧ r 1048704 ≤ (6 : Int) := hR.2.2.1 _ (List.mem_cons_of_mem _ List.mem_cons_self)
          have hv2 := yb48a_n hv (by omega) (by decide)
          have t0 : (19999 : Int) ≤ r 1048640 ∧ r 1048640 ≤ (19999 : Int) := hR.2.2.1 _ List.mem_cons_self
          have hn : n = 0 := by omega
          subst hn
          exact hE3 (yb48_0 hv2) r2 hr2 G2 (a1049153.trans hZ)
        · have a1048577 : r2 1048577 = r 1048577 := yas hR List.mem_cons_self
          have a1048640 : r2 1048640 = (r 1048640 + (1 : Int)) := yas hR (List.mem_cons_of_mem _ List.mem_cons_self)
          have a1048704 : r2 1048704 = (r 1048704 + (1 : Int)) := yas hR (List.mem_cons_of_mem _ (List.mem_cons_of_mem _ List.mem_cons_self))
          have a1049153 : r2 1049153 = r 1049153 := yas hR (List.mem_cons_of_mem _ (List.mem_cons_of_mem _ (List.mem_cons_of_mem _ List.mem_cons_self)))
          have fS : ∀ j : Nat, j < 16 → r2 (4194310 + 64 * j) = (bif decide (r 1048960 = (j : Int)) then ((0, -1) : ycV) else (0, r (4194310 + 64 * j))).2 := fun j hj => hR.2.1 _ List.mem_cons_self (4194310, 16, 506) List.mem_cons_self rfl j hj
          have fD : ∀ j : Nat, j < 16 → r2 (4195394 + 64 * j) = (xct r (.branch 0 (.branch 0 (.branch 0 (.branch 0 (.branch 0 (.leaf (0, .add (.var 4195394) (.num 1))) (.leaf (10, .num 4195394))) (.leaf (10, .num 4195394))) (.leaf (10, .num 4195394))) (.leaf (10, .num 4195394))) (.leaf (10, .num 4195394))) j).2 := fun j hj => hR.2.1 _ (List.mem_cons_of_mem _ List.mem_cons_self) (4195394, 16, 505) (List.mem_cons_of_mem _ List.mem_cons_self) rfl j hj
          have fD2 : ∀ s : Nat, s < 8 → s ≠ (S p).toNat → r2 (4195394 + 64 * s) = D s := fun s hs hn => ((fD s (by omega)).trans (yb48_d8 r s hs (by omega))).trans (m5 s hs)
          have t1 : (0 : Int) ≤ r 1048704 ∧ r 1048704 ≤ (6 : Int) := hR.2.2.1 _ (List.mem_cons_of_mem _ List.mem_cons_self)
          have hv2 := yb48a_n hv (by omega) (by decide)
          exact hC r2 w x (f + 1) (yb48u S p (-1)) (fun s => r2 (4195394 + 64 * s)) hr2 G2 (a1049153.trans hZ) ⟨aw, a1048577.trans m2, by omega, fun k hk => yb48_fu (fS k (by omega)) hup rfl (m4 k hk), fun _ _ => rfl, yb48J_step m6 hp (by omega) fD2 (by decide)⟩ (by omega) hv2
      · have hv := yb48w_s hy (by omega)
        have ed : r 4195458 = 0 := (m5 1 (by decide)).trans (by
          have z := m6.2.2.1 p hp (by omega)
          rw [e] at z
          exact z)
        have H1 := xHc (e := .sub (.var 128) (.var 1048960)) (lo := 1) (hi := 16) H (show (1 : Int) ≤ (r 128 - r 1048960) by omega) (show (r 128 - r 1048960) ≤ (16 : Int) by omega)
        have H2 := xHc (e := .var 1049024) (lo := 0) (hi := 0) H1 (show (0 : Int) ≤ r 1049024 by omega) (show r 1049024 ≤ (0 : Int) by omega)
        have H3 := xHc (e := .pow (.sub (.num 4194310) (.var 1048960)) 0) (lo := 1) (hi := 1) H2 (show (1 : Int) ≤ r (4194310 + 64 * (r 1048960).toNat) by omega) (show r (4194310 + 64 * (r 1048960).toNat) ≤ (1 : Int) by omega)
        have H4 := xHc (e := .var 4195458) (lo := 0) (hi := 0) H3 (show (0 : Int) ≤ r 4195458 by omega) (show r 4195458 ≤ (0 : Int) by omega)
        refine yz_run hL yq48_V2s1 hr H4 (xcut_s fun c hc r2 G2 hR => ?_)
        have hr2 : yzr L xs r2 := fun i hi => by rw [hR.2.2.2 i hi]; exact hr i hi
        have aw : r2 128 = w := (hR.2.2.2 128 (by decide)).trans m1
        simp only [List.mem_cons, List.not_mem_nil, or_false] at hc
        rcases hc with rfl | rfl | rfl
        · have a1048640 : r2 1048640 = (r 1048640 + (1 : Int)) := yas hR List.mem_cons_self
          have a1048704 : r2 1048704 = (r 1048704 + (1 : Int)) := yas hR (List.mem_cons_of_mem _ List.mem_cons_self)
          have a1049153 : r2 1049153 = r 1049153 := yas hR (List.mem_cons_of_mem _ (List.mem_cons_of_mem _ List.mem_cons_self))
          have fS : ∀ j : Nat, j < 16 → r2 (4194310 + 64 * j) = (bif decide (r 1048960 = (j : Int)) then ((0, -1) : ycV) else (0, r (4194310 + 64 * j))).2 := fun j hj => hR.2.1 _ List.mem_cons_self (4194310, 16, 506) List.mem_cons_self rfl j hj
          have fD : ∀ j : Nat, j < 16 → r2 (4195394 + 64 * j) = (xct r (.branch 0 (.leaf (10, .num 4195394)) (.branch 0 (.branch 0 (.branch 0 (.branch 0 (.leaf (0, .add (.var 4195458) (.num 1))) (.leaf (10, .num 4195394))) (.leaf (10, .num 4195394))) (.leaf (10, .num 4195394))) (.leaf (10, .num 4195394)))) j).2 := fun j hj => hR.2.1 _ (List.mem_cons_of_mem _ List.mem_cons_self) (4195394, 16, 505) (List.mem_cons_of_mem _ List.mem_cons_self) rfl j hj
          have fD2 : ∀ s : Nat, s < 8 → s ≠ (S p).toNat → r2 (4195394 + 64 * s) = D s := fun s hs hn => ((fD s (by omega)).trans (yb48_d9 r s hs (by omega))).trans (m5 s hs)
          have t0 : (7 : Int) ≤ r 1048704 ∧ r 1048704 ≤ (7 : Int) := hR.2.2.1 _ List.mem_cons_self
          exact hE0 (yb48a_e hv (by omega)) r2 hr2 G2 (a1049153.trans hZ)
        · have a1048640 : r2 1048640 = (r 1048640 + (1 : Int)) := yas hR List.mem_cons_self
          have a1048704 : r2 1048704 = (r 1048704 + (1 : Int)) := yas hR (List.mem_cons_of_mem _ List.mem_cons_self)
          have a1049153 : r2 1049153 = r 1049153 := yas hR (List.mem_cons_of_mem _ (List.mem_cons_of_mem _ List.mem_cons_self))
          have fS : ∀ j : Nat, j < 16 → r2 (4194310 + 64 * j) = (bif decide (r 1048960 = (j : Int)) then ((0, -1) : ycV) else (0, r (4194310 + 64 * j))).2 := fun j hj => hR.2.1 _ List.mem_cons_self (4194310, 16, 506) List.mem_cons_self rfl j hj
          have fD : ∀ j : Nat, j < 16 → r2 (4195394 + 64 * j) = (xct r (.branch 0 (.leaf (10, .num 4195394)) (.branch 0 (.branch 0 (.branch 0 (.branch 0 (.leaf (0, .add (.var 4195458) (.num 1))) (.leaf (10, .num 4195394))) (.leaf (10, .num 4195394))) (.leaf (10, .num 4195394))) (.leaf (10, .num 4195394)))) j).2 := fun j hj => hR.2.1 _ (List.mem_cons_of_mem _ List.mem_cons_self) (4195394, 16, 505) (List.mem_cons_of_mem _ List.mem_cons_self) rfl j hj
          have fD2 : ∀ s : Nat, s < 8 → s ≠ (S p).toNat → r2 (4195394 + 64 * s) = D s := fun s hs hn => ((fD s (by omega)).trans (yb48_d9 r s hs (by omega))).trans (m5 s hs)
          have t1 : (0 : Int) ≤ r 1048704 ∧ r 1048704 ≤ (6 : Int) := hR.2.2.1 _ (List.mem_cons_of_mem _ List.mem_cons_self)
          have hv2 := yb48a_n hv (by omega) (by decide)
          have t0 : (19999 : Int) ≤ r 1048640 ∧ r 1048640 ≤ (19999 : Int) := hR.2.2.1 _ List.mem_cons_self
          have hn : n = 0 := by omega
          subst hn
          exact hE3 (yb48_0 hv2) r2 hr2 G2 (a1049153.trans hZ)
        · have a1048577 : r2 1048577 = r 1048577 := yas hR List.mem_cons_self
          have a1048640 : r2 1048640 = (r 1048640 + (1 : Int)) := yas hR (List.mem_cons_of_mem _ List.mem_cons_self)
          have a1048704 : r2 1048704 = (r 1048704 + (1 : Int)) := yas hR (List.mem_cons_of_mem _ (List.mem_cons_of_mem _ List.mem_cons_self))
          have a1049153 : r2 1049153 = r 1049153 := yas hR (List.mem_cons_of_mem _ (List.mem_cons_of_mem _ (List.mem_cons_of_mem _ List.mem_cons_self)))
          have fS : ∀ j : Nat, j < 16 → r2 (4194310 + 64 * j) = (bif decide (r 1048960 = (j : Int)) then ((0, -1) : ycV) else (0, r (4194310 + 64 * j))).2 := fun j hj => hR.2.1 _ List.mem_cons_self (4194310, 16, 506) List.mem_cons_self rfl j hj
          have fD : ∀ j : Nat, j < 16 → r2 (4195394 + 64 * j) = (xct r (.branch 0 (.leaf (10, .num 4195394)) (.branch 0 (.branch 0 (.branch 0 (.branch 0 (.leaf (0, .add (.var 4195458) (.num 1))) (.leaf (10, .num 4195394))) (.leaf (10, .num 4195394))) (.leaf (10, .num 4195394))) (.leaf (10, .num 4195394)))) j).2 := fun j hj => hR.2.1 _ (List.mem_cons_of_mem _ List.mem_cons_self) (4195394, 16, 505) (List.mem_cons_of_mem _ List.mem_cons_self) rfl j hj
          have fD2 : ∀ s : Nat, s < 8 → s ≠ (S p).toNat → r2 (4195394 + 64 * s) = D s := fun s hs hn => ((fD s (by omega)).trans (yb48_d9 r s hs (by omega))).trans (m5 s hs)
          have t1 : (0 : Int) ≤ r 1048704 ∧ r 1048704 ≤ (6 : Int) := hR.2.2.1 _ (List.mem_cons_of_mem _ List.mem_cons_self)
          have hv2 := yb48a_n hv (by omega) (by decide)
          exact hC r2 w x (f + 1) (yb48u S p (-1)) (fun s => r2 (4195394 + 64 * s)) hr2 G2 (a1049153.trans hZ) ⟨aw, a1048577.trans m2, by omega, fun k hk => yb48_fu (fS k (by omega)) hup rfl (m4 k hk), fun _ _ => rfl, yb48J_step m6 hp (by omega) fD2 (by decide)⟩ (by omega) hv2
      · have hv := yb48w_s hy (by omega)
        have ed : r 4195522 = 0 := (m5 2 (by decide)).trans (by
          have z := m6.2.2.1 p hp (by omega)
          rw [e] at z
          exact z)
        have H1 := xHc (e := .sub (.var 128) (.var 1048960)) (lo := 1) (hi := 16) H (show (1 : Int) ≤ (r 128 - r 1048960) by omega) (show (r 128 - r 1048960) ≤ (16 : Int) by omega)
        have H2 := xHc (e := .var 1049024) (lo := 0) (hi := 0) H1 (show (0 : Int) ≤ r 1049024 by omega) (show r 1049024 ≤ (0 : Int) by omega)
        have H3 := xHc (e := .pow (.sub (.num 4194310) (.var 1048960)) 0) (lo := 2) (hi := 2) H2 (show (2 : Int) ≤ r (4194310 + 64 * (r 1048960).toNat) by omega) (show r (4194310 + 64 * (r 1048960).toNat) ≤ (2 : Int) by omega)
        have H4 := xHc (e := .var 4195522) (lo := 0) (hi := 0) H3 (show (0 : Int) ≤ r 4195522 by omega) (show r 4195522 ≤ (0 : Int) by omega)
        refine yz_run hL yq48_V2s2 hr H4 (xcut_s fun c hc r2 G2 hR => ?_)
        have hr2 : yzr L xs r2 := fun i hi => by rw [hR.2.2.2 i hi]; exact hr i hi
        have aw : r2 128 = w := (hR.2.2.2 128 (by decide)).trans m1
        simp only [List.mem_cons, List.not_mem_nil, or_false] at hc
        rcases hc with rfl | rfl | rfl
        · have a1048640 : r2 1048640 = (r 1048640 + (1 : Int)) := yas hR List.mem_cons_self
          have a1048704 : r2 1048704 = (r 1048704 + (1 : Int)) := yas hR (List.mem_cons_of_mem _ List.mem_cons_self)
          have a1049153 : r2 1049153 = r 1049153 := yas hR (List.mem_cons_of_mem _ (List.mem_cons_of_mem _ List.mem_cons_self))
          have fS : ∀ j : Nat, j < 16 → r2 (4194310 + 64 * j) = (bif decide (r 1048960 = (j : Int)) then ((0, -1) : ycV) else (0, r (4194310 + 64 * j))).2 := fun j hj => hR.2.1 _ List.mem_cons_self (4194310, 16, 506) List.mem_cons_self rfl j hj
          have fD : ∀ j : Nat, j < 16 → r2 (4195394 + 64 * j) = (xct r (.branch 0 (.branch 0 (.leaf (10, .num 4195394)) (.branch 0 (.branch 0 (.branch 0 (.leaf (0, .add (.var 4195522) (.num 1))) (.leaf (10, .num 4195394))) (.leaf (10, .num 4195394))) (.leaf (10, .num 4195394)))) (.leaf (10, .num 4195394))) j).2 := fun j hj => hR.2.1 _ (List.mem_cons_of_mem _ List.mem_cons_self) (4195394, 16, 505) (List.mem_cons_of_mem _ List.mem_cons_self) rfl j hj
          have fD2 : ∀ s : Nat, s < 8 → s ≠ (S p).toNat → r2 (4195394 + 64 * s) = D s := fun s hs hn => ((fD s (by omega)).trans (yb48_d10 r s hs (by omega))).trans (m5 s hs)
          have t0 : (7 : Int) ≤ r 1048704 ∧ r 1048704 ≤ (7 : Int) := hR.2.2.1 _ List.mem_cons_self
          exact hE0 (yb48a_e hv (by omega)) r2 hr2 G2 (a1049153.trans hZ)
        · have a1048640 : r2 1048640 = (r 1048640 + (1 : Int)) := yas hR List.mem_cons_self
          have a1048704 : r2 1048704 = (r 1048704 + (1 : Int)) := yas hR (List.mem_cons_of_mem _ List.mem_cons_self)
          have a1049153 : r2 1049153 = r 1049153 := yas hR (List.mem_cons_of_mem _ (List.mem_cons_of_mem _ List.mem_cons_self))
          have fS : ∀ j : Nat, j < 16 → r2 (4194310 + 64 * j) = (bif decide (r 1048960 = (j : Int)) then ((0, -1) : ycV) else (0, r (4194310 + 64 * j))).2 := fun j hj => hR.2.1 _ List.mem_cons_self (4194310, 16, 506) List.mem_cons_self rfl j hj
          have fD : ∀ j : Nat, j < 16 → r2 (4195394 + 64 * j) = (xct r (.branch 0 (.branch 0 (.leaf (10, .num 4195394)) (.branch 0 (.branch 0 (.branch 0 (.leaf (0, .add (.var 4195522) (.num 1))) (.leaf (10, .num 4195394))) (.leaf (10, .num 4195394))) (.leaf (10, .num 4195394)))) (.leaf (10, .num 4195394))) j).2 := fun j hj => hR.2.1 _ (List.mem_cons_of_mem _ List.mem_cons_self) (4195394, 16, 505) (List.mem_cons_of_mem _ List.mem_cons_self) rfl j hj
          have fD2 : ∀ s : Nat, s < 8 → s ≠ (S p).toNat → r2 (4195394 + 64 * s) = D s := fun s hs hn => ((fD s (by omega)).trans (yb48_d10 r s hs (by omega))).trans (m5 s hs)
          have t1 : (0 : Int) ≤ r 1048704 ∧ r 1048704 ≤ (6 : Int) := hR.2.2.1 _ (List.mem_cons_of_mem _ List.mem_cons_self)
          have hv2 := yb48a_n hv (by omega) (by decide)
          have t0 : (19999 : Int) ≤ r 1048640 ∧ r 1048640 ≤ (19999 : Int) := hR.2.2.1 _ List.mem_cons_self
          have hn : n = 0 := by omega
          subst hn
          exact hE3 (yb48_0 hv2) r2 hr2 G2 (a1049153.trans hZ)
        · have a1048577 : r2 1048577 = r 1048577 := yas hR List.mem_cons_self
          have a1048640 : r2 1048640 = (r 1048640 + (1 : Int)) := yas hR (List.mem_cons_of_mem _ List.mem_cons_self)
          have a1048704 : r2 1048704 = (r 1048704 + (1 : Int)) := yas hR (List.mem_cons_of_mem _ (List.mem_cons_of_mem _ List.mem_cons_self))
          have a1049153 : r2 1049153 = r 1049153 := yas hR (List.mem_cons_of_mem _ (List.mem_cons_of_mem _ (List.mem_cons_of_mem _ List.mem_cons_self)))
          have fS : ∀ j : Nat, j < 16 → r2 (4194310 + 64 * j) = (bif decide (r 1048960 = (j : Int)) then ((0, -1) : ycV) else (0, r (4194310 + 64 * j))).2 := fun j hj => hR.2.1 _ List.mem_cons_self (4194310, 16, 506) List.mem_cons_self rfl j hj
          have fD : ∀ j : Nat, j < 16 → r2 (4195394 + 64 * j) = (xct r (.branch 0 (.branch 0 (.leaf (10, .num 4195394)) (.branch 0 (.branch 0 (.branch 0 (.leaf (0, .add (.var 4195522) (.num 1))) (.leaf (10, .num 4195394))) (.leaf (10, .num 4195394))) (.leaf (10, .num 4195394)))) (.leaf (10, .num 4195394))) j).2 := fun j hj => hR.2.1 _ (List.mem_cons_of_mem _ List.mem_cons_self) (4195394, 16, 505) (List.mem_cons_of_mem _ List.mem_cons_self) rfl j hj
          have fD2 : ∀ s : Nat, s < 8 → s ≠ (S p).toNat → r2 (4195394 + 64 * s) = D s := fun s hs hn => ((fD s (by omega)).trans (yb48_d10 r s hs (by omega))).trans (m5 s hs)
          have t1 : (0 : Int) ≤ r 1048704 ∧ r 1048704 ≤ (6 : Int) := hR.2.2.1 _ (List.mem_cons_of_mem _ List.mem_cons_self)
          have hv2 := yb48a_n hv (by omega) (by decide)
          exact hC r2 w x (f + 1) (yb48u S p (-1)) (fun s => r2 (4195394 + 64 * s)) hr2 G2 (a1049153.trans hZ) ⟨aw, a1048577.trans m2, by omega, fun k hk => yb48_fu (fS k (by omega)) hup rfl (m4 k hk), fun _ _ => rfl, yb48J_step m6 hp (by omega) fD2 (by decide)⟩ (by omega) hv2
      · have hv := yb48w_s hy (by omega)
        have ed : r 4195586 = 0 := (m5 3 (by decide)).trans (by
          have z := m6.2.2.1 p hp (by omega)
          rw [e] at z
          exact z)
        have H1 := xHc (e := .sub (.var 128) (.var 1048960)) (lo := 1) (hi := 16) H (show (1 : Int) ≤ (r 128 - r 1048960) by omega) (show (r 128 - r 1048960) ≤ (16 : Int) by omega)
        have H2 := xHc (e := .var 1049024) (lo := 0) (hi := 0) H1 (show (0 : Int) ≤ r 1049024 by omega) (show r 1049024 ≤ (0 : Int) by omega)
        have H3 := xHc (e := .pow (.sub (.num 4194310) (.var 1048960)) 0) (lo := 3) (hi := 3) H2 (show (3 : Int) ≤ r (4194310 + 64 * (r 1048960).toNat) by omega) (show r (4194310 + 64 * (r 1048960).toNat) ≤ (3 : Int) by omega)
        have H4 := xHc (e := .var 4195586) (lo := 0) (hi := 0) H3 (show (0 : Int) ≤ r 4195586 by omega) (show r 4195586 ≤ (0 : Int) by omega)
        refine yz_run hL yq48_V2s3 hr H4 (xcut_s fun c hc r2 G2 hR => ?_)
        have hr2 : yzr L xs r2 := fun i hi => by rw [hR.2.2.2 i hi]; exact hr i hi
        have aw : r2 128 = w := (hR.2.2.2 128 (by decide)).trans m1
        simp only [List.mem_cons, List.not_mem_nil, or_false] at hc
        rcases hc with rfl | rfl | rfl
        · have a1048640 : r2 1048640 = (r 1048640 + (1 : Int)) := yas hR List.mem_cons_self
          have a1048704 : r2 1048704 = (r 1048704 + (1 : Int)) := yas hR (List.mem_cons_of_mem _ List.mem_cons_self)
          have a1049153 : r2 1049153 = r 1049153 := yas hR (List.mem_cons_of_mem _ (List.mem_cons_of_mem _ List.mem_cons_self))
          have fS : ∀ j : Nat, j < 16 → r2 (4194310 + 64 * j) = (bif decide (r 1048960 = (j : Int)) then ((0, -1) : ycV) else (0, r (4194310 + 64 * j))).2 := fun j hj => hR.2.1 _ List.mem_cons_self (4194310, 16, 506) List.mem_cons_self rfl j hj
          have fD : ∀ j : Nat, j < 16 → r2 (4195394 + 64 * j) = (xct r (.branch 0 (.leaf (10, .num 4195394)) (.branch 0 (.leaf (10, .num 4195394)) (.branch 0 (.branch 0 (.branch 0 (.leaf (0, .add (.var 4195586) (.num 1))) (.leaf (10, .num 4195394))) (.leaf (10, .num 4195394))) (.leaf (10, .num 4195394))))) j).2 := fun j hj => hR.2.1 _ (List.mem_cons_of_mem _ List.mem_cons_self) (4195394, 16, 505) (List.mem_cons_of_mem _ List.mem_cons_self) rfl j hj
          have fD2 : ∀ s : Nat, s < 8 → s ≠ (S p).toNat → r2 (4195394 + 64 * s) = D s := fun s hs hn => ((fD s (by omega)).trans (yb48_d11 r s hs (by omega))).trans (m5 s hs)
          have t0 : (7 : Int) ≤ r 1048704 ∧ r 1048704 ≤ (7 : Int) := hR.2.2.1 _ List.mem_cons_self
          exact hE0 (yb48a_e hv (by omega)) r2 hr2 G2 (a1049153.trans hZ)
        · have a1048640 : r2 1048640 = (r 1048640 + (1 : Int)) := yas hR List.mem_cons_self
          have a1048704 : r2 1048704 = (r 1048704 + (1 : Int)) := yas hR (List.mem_cons_of_mem _ List.mem_cons_self)
          have a1049153 : r2 1049153 = r 1049153 := yas hR (List.mem_cons_of_mem _ (List.mem_cons_of_mem _ List.mem_cons_self))
          have fS : ∀ j : Nat, j < 16 → r2 (4194310 + 64 * j) = (bif decide (r 1048960 = (j : Int)) then ((0, -1) : ycV) else (0, r (4194310 + 64 * j))).2 := fun j hj => hR.2.1 _ List.mem_cons_self (4194310, 16, 506) List.mem_cons_self rfl j hj
          have fD : ∀ j : Nat, j < 16 → r2 (4195394 + 64 * j) = (xct r (.branch 0 (.leaf (10, .num 4195394)) (.branch 0 (.leaf (10, .num 4195394)) (.branch 0 (.branch 0 (.branch 0 (.leaf (0, .add (.var 4195586) (.num 1))) (.leaf (10, .num 4195394))) (.leaf (10, .num 4195394))) (.leaf (10, .num 4195394))))) j).2 := fun j hj => hR.2.1 _ (List.mem_cons_of_mem _ List.mem_cons_self) (4195394, 16, 505) (List.mem_cons_of_mem _ List.mem_cons_self) rfl j hj
          have fD2 : ∀ s : Nat, s < 8 → s ≠ (S p).toNat → r2 (4195394 + 64 * s) = D s := fun s hs hn => ((fD s (by omega)).trans (yb48_d11 r s hs (by omega))).trans (m5 s hs)
          have t1 : (0 : Int) ≤ r 1048704 ∧ r 1048704 ≤ (6 : Int) := hR.2.2.1 _ (List.mem_cons_of_mem _ List.mem_cons_self)
          have hv2 := yb48a_n hv (by omega) (by decide)
          have t0 : (19999 : Int) ≤ r 1048640 ∧ r 1048640 ≤ (19999 : Int) := hR.2.2.1 _ List.mem_cons_self
          have hn : n = 0 := by omega
          subst hn
          exact hE3 (yb48_0 hv2) r2 hr2 G2 (a1049153.trans hZ)
        · have a1048577 : r2 1048577 = r 1048577 := yas hR List.mem_cons_self
          have a1048640 : r2 1048640 = (r 1048640 + (1 : Int)) := yas hR (List.mem_cons_of_mem _ List.mem_cons_self)
          have a1048704 : r2 1048704 = (r 1048704 + (1 : Int)) := yas hR (List.mem_cons_of_mem _ (List.mem_cons_of_mem _ List.mem_cons_self))
          have a1049153 : r2 1049153 = r 1049153 := yas hR (List.mem_cons_of_mem _ (List.mem_cons_of_mem _ (List.mem_cons_of_mem _ List.mem_cons_self)))
          have fS : ∀ j : Nat, j < 16 → r2 (4194310 + 64 * j) = (bif decide (r 1048960 = (j : Int)) then ((0, -1) : ycV) else (0, r (4194310 + 64 * j))).2 := fun j hj => hR.2.1 _ List.mem_cons_self (4194310, 16, 506) List.mem_cons_self rfl j hj
          have fD : ∀ j : Nat, j < 16 → r2 (4195394 + 64 * j) = (xct r (.branch 0 (.leaf (10, .num 4195394)) (.branch 0 (.leaf (10, .num 4195394)) (.branch 0 (.branch 0 (.branch 0 (.leaf (0, .add (.var 4195586) (.num 1))) (.leaf (10, .num 4195394))) (.leaf (10, .num 4195394))) (.leaf (10, .num 4195394))))) j).2 := fun j hj => hR.2.1 _ (List.mem_cons_of_mem _ List.mem_cons_self) (4195394, 16, 505) (List.mem_cons_of_mem _ List.mem_cons_self) rfl j hj
          have fD2 : ∀ s : Nat, s < 8 → s ≠ (S p).toNat → r2 (4195394 + 64 * s) = D s := fun s hs hn => ((fD s (by omega)).trans (yb48_d11 r s hs (by omega))).trans (m5 s hs)
          have t1 : (0 : Int) ≤ r 1048704 ∧ r 1048704 ≤ (6 : Int) := hR.2.2.1 _ (List.mem_cons_of_mem _ List.mem_cons_self)
          have hv2 := yb48a_n hv (by omega) (by decide)
          exact hC r2 w x (f + 1) (yb48u S p (-1)) (fun s => r2 (4195394 + 64 * s)) hr2 G2 (a1049153.trans hZ) ⟨aw, a1048577.trans m2, by omega, fun k hk => yb48_fu (fS k (by omega)) hup rfl (m4 k hk), fun _ _ => rfl, yb48J_step m6 hp (by omega) fD2 (by decide)⟩ (by omega) hv2
      · have hv := yb48w_s hy (by omega)
        have ed : r 4195650 = 0 := (m5 4 (by decide)).trans (by
          have z := m6.2.2.1 p hp (by omega)
          rw [e] at z
          exact z)
        have H1 := xHc (e := .sub (.var 128) (.var 1048960)) (lo := 1) (hi := 16) H (show (1 : Int) ≤ (r 128 - r 1048960) by omega) (show (r 128 - r 1048960) ≤ (16 : Int) by omega)
        have H2 := xHc (e := .var 1049024) (lo := 0) (hi := 0) H1 (show (0 : Int) ≤ r 1049024 by omega) (show r 1049024 ≤ (0 : Int) by omega)
        have H3 := xHc (e := .pow (.sub (.num 4194310) (.var 1048960)) 0) (lo := 4) (hi := 4) H2 (show (4 : Int) ≤ r (4194310 + 64 * (r 1048960).toNat) by omega) (show r (4194310 + 64 * (r 1048960).toNat) ≤ (4 : Int) by omega)
        have H4 := xHc (e := .var 4195650) (lo := 0) (hi := 0) H3 (show (0 : Int) ≤ r 4195650 by omega) (show r 4195650 ≤ (0 : Int) by omega)
        refine yz_run hL yq48_V2s4 hr H4 (xcut_s fun c hc r2 G2 hR => ?_)
        have hr2 : yzr L xs r2 := fun i hi => by rw [hR.2.2.2 i hi]; exact hr i hi
        have aw : r2 128 = w := (hR.2.2.2 128 (by decide)).trans m1
        simp only [List.mem_cons, List.not_mem_nil, or_false] at hc
        rcases hc with rfl | rfl | rfl
        · have a1048640 : r2 1048640 = (r 1048640 + (1 : Int)) := yas hR List.mem_cons_self
          have a1048704 : r2 1048704 = (r 1048704 + (1 : Int)) := yas hR (List.mem_cons_of_mem _ List.mem_cons_self)
          have a1049153 : r2 1049153 = r 1049153 := yas hR (List.mem_cons_of_mem _ (List.mem_cons_of_mem _ List.mem_cons_self))
          have fS : ∀ j : Nat, j < 16 → r2 (4194310 + 64 * j) = (bif decide (r 1048960 = (j : Int)) then ((0, -1) : ycV) else (0, r (4194310 + 64 * j))).2 := fun j hj => hR.2.1 _ List.mem_cons_self (4194310, 16, 506) List.mem_cons_self rfl j hj
          have fD : ∀ j : Nat, j < 16 → r2 (4195394 + 64 * j) = (xct r (.branch 0 (.branch 0 (.branch 0 (.leaf (10, .num 4195394)) (.branch 0 (.branch 0 (.leaf (0, .add (.var 4195650) (.num 1))) (.leaf (10, .num 4195394))) (.leaf (10, .num 4195394)))) (.leaf (10, .num 4195394))) (.leaf (10, .num 4195394))) j).2 := fun j hj => hR.2.1 _ (List.mem_cons_of_mem _ List.mem_cons_self) (4195394, 16, 505) (List.mem_cons_of_mem _ List.mem_cons_self) rfl j hj
          have fD2 : ∀ s : Nat, s < 8 → s ≠ (S p).toNat → r2 (4195394 + 64 * s) = D s := fun s hs hn => ((fD s (by omega)).trans (yb48_d12 r s hs (by omega))).trans (m5 s hs)
          have t0 : (7 : Int) ≤ r 1048704 ∧ r 1048704 ≤ (7 : Int) := hR.2.2.1 _ List.mem_cons_self
          exact hE0 (yb48a_e hv (by omega)) r2 hr2 G2 (a1049153.trans hZ)
        · have a1048640 : r2 1048640 = (r 1048640 + (1 : Int)) := yas hR List.mem_cons_self
          have a1048704 : r2 1048704 = (r 1048704 + (1 : Int)) := yas hR (List.mem_cons_of_mem _ List.mem_cons_self)
          have a1049153 : r2 1049153 = r 1049153 := yas hR (List.mem_cons_of_mem _ (List.mem_cons_of_mem _ List.mem_cons_self))
          have fS : ∀ j : Nat, j < 16 → r2 (4194310 + 64 * j) = (bif decide (r 1048960 = (j : Int)) then ((0, -1) : ycV) else (0, r (4194310 + 64 * j))).2 := fun j hj => hR.2.1 _ List.mem_cons_self (4194310, 16, 506) List.mem_cons_self rfl j hj
          have fD : ∀ j : Nat, j < 16 → r2 (4195394 + 64 * j) = (xct r (.branch 0 (.branch 0 (.branch 0 (.leaf (10, .num 4195394)) (.branch 0 (.branch 0 (.leaf (0, .add (.var 4195650) (.num 1))) (.leaf (10, .num 4195394))) (.leaf (10, .num 4195394)))) (.leaf (10, .num 4195394))) (.leaf (10, .num 4195394))) j).2 := fun j hj => hR.2.1 _ (List.mem_cons_of_mem _ List.mem_cons_self) (4195394, 16, 505) (List.mem_cons_of_mem _ List.mem_cons_self) rfl j hj
          have fD2 : ∀ s : Nat, s < 8 → s ≠ (S p).toNat → r2 (4195394 + 64 * s) = D s := fun s hs hn => ((fD s (by omega)).trans (yb48_d12 r s hs (by omega))).trans (m5 s hs)
          have t1 : (0 : Int) ≤ r 1048704 ∧ r 1048704 ≤ (6 : Int) := hR.2.2.1 _ (List.mem_cons_of_mem _ List.mem_cons_self)
          have hv2 := yb48a_n hv (by omega) (by decide)
          have t0 : (19999 : Int) ≤ r 1048640 ∧ r 1048640 ≤ (19999 : Int) := hR.2.2.1 _ List.mem_cons_self
          have hn : n = 0 := by omega
          subst hn
          exact hE3 (yb48_0 hv2) r2 hr2 G2 (a1049153.trans hZ)
        · have a1048577 : r2 1048577 = r 1048577 := yas hR List.mem_cons_self
          have a1048640 : r2 1048640 = (r 1048640 + (1 : Int)) := yas hR (List.mem_cons_of_mem _ List.mem_cons_self)
          have a1048704 : r2 1048704 = (r 1048704 + (1 : Int)) := yas hR (List.mem_cons_of_mem _ (List.mem_cons_of_mem _ List.mem_cons_self))
          have a1049153 : r2 1049153 = r 1049153 := yas hR (List.mem_cons_of_mem _ (List.mem_cons_of_mem _ (List.mem_cons_of_mem _ List.mem_cons_self)))
          have fS : ∀ j : Nat, j < 16 → r2 (4194310 + 64 * j) = (bif decide (r 1048960 = (j : Int)) then ((0, -1) : ycV) else (0, r (4194310 + 64 * j))).2 := fun j hj => hR.2.1 _ List.mem_cons_self (4194310, 16, 506) List.mem_cons_self rfl j hj
          have fD : ∀ j : Nat, j < 16 → r2 (4195394 + 64 * j) = (xct r (.branch 0 (.branch 0 (.branch 0 (.leaf (10, .num 4195394)) (.branch 0 (.branch 0 (.leaf (0, .add (.var 4195650) (.num 1))) (.leaf (10, .num 4195394))) (.leaf (10, .num 4195394)))) (.leaf (10, .num 4195394))) (.leaf (10, .num 4195394))) j).2 := fun j hj => hR.2.1 _ (List.mem_cons_of_mem _ List.mem_cons_self) (4195394, 16, 505) (List.mem_cons_of_mem _ List.mem_cons_self) rfl j hj
          have fD2 : ∀ s : Nat, s < 8 → s ≠ (S p).toNat → r2 (4195394 + 64 * s) = D s := fun s hs hn => ((fD s (by omega)).trans (yb48_d12 r s hs (by omega))).trans (m5 s hs)
          have t1 : (0 : Int) ≤ r 1048704 ∧ r 1048704 ≤ (6 : Int) := hR.2.2.1 _ (List.mem_cons_of_mem _ List.mem_cons_self)
          have hv2 := yb48a_n hv (by omega) (by decide)
          exact hC r2 w x (f + 1) (yb48u S p (-1)) (fun s => r2 (4195394 + 64 * s)) hr2 G2 (a1049153.trans hZ) ⟨aw, a1048577.trans m2, by omega, fun k hk => yb48_fu (fS k (by omega)) hup rfl (m4 k hk), fun _ _ => rfl, yb48J_step m6 hp (by omega) fD2 (by decide)⟩ (by omega) hv2
      · have hv := yb48w_s hy (by omega)
        have ed : r 4195714 = 0 := (m5 5 (by decide)).trans (by
          have z := m6.2.2.1 p hp (by omega)
          rw [e] at z
          exact z)
        have H1 := xHc (e := .sub (.var 128) (.var 1048960)) (lo := 1) (hi := 16) H (show (1 : Int) ≤ (r 128 - r 1048960) by omega) (show (r 128 - r 1048960) ≤ (16 : Int) by omega)
        have H2 := xHc (e := .var 1049024) (lo := 0) (hi := 0) H1 (show (0 : Int) ≤ r 1049024 by omega) (show r 1049024 ≤ (0 : Int) by omega)
        have H3 := xHc (e := .pow (.sub (.num 4194310) (.var 1048960)) 0) (lo := 5) (hi := 5) H2 (show (5 : Int) ≤ r (4194310 + 64 * (r 1048960).toNat) by omega) (show r (4194310 + 64 * (r 1048960).toNat) ≤ (5 : Int) by omega)
        have H4 := xHc (e := .var 4195714) (lo := 0) (hi := 0) H3 (show (0 : Int) ≤ r 4195714 by omega) (show r 4195714 ≤ (0 : Int) by omega)
        refine yz_run hL yq48_V2s5 hr H4 (xcut_s fun c hc r2 G2 hR => ?_)
        have hr2 : yzr L xs r2 := fun i hi => by rw [hR.2.2.2 i hi]; exact hr i hi
        have aw : r2 128 = w := (hR.2.2.2 128 (by decide)).trans m1
        simp only [List.mem_cons, List.not_mem_nil, or_false] at hc
        rcases hc with rfl | rfl | rfl
        · have a1048640 : r2 1048640 = (r 1048640 + (1 : Int)) := yas hR List.mem_cons_self
          have a1048704 : r2 1048704 = (r 1048704 + (1 : Int)) := yas hR (List.mem_cons_of_mem _ List.mem_cons_self)
          have a1049153 : r2 1049153 = r 1049153 := yas hR (List.mem_cons_of_mem _ (List.mem_cons_of_mem _ List.mem_cons_self))
          have fS : ∀ j : Nat, j < 16 → r2 (4194310 + 64 * j) = (bif decide (r 1048960 = (j : Int)) then ((0, -1) : ycV) else (0, r (4194310 + 64 * j))).2 := fun j hj => hR.2.1 _ List.mem_cons_self (4194310, 16, 506) List.mem_cons_self rfl j hj
          have fD : ∀ j : Nat, j < 16 → r2 (4195394 + 64 * j) = (xct r (.branch 0 (.leaf (10, .num 4195394)) (.branch 0 (.branch 0 (.leaf (10, .num 4195394)) (.branch 0 (.branch 0 (.leaf (0, .add (.var 4195714) (.num 1))) (.leaf (10, .num 4195394))) (.leaf (10, .num 4195394)))) (.leaf (10, .num 4195394)))) j).2 := fun j hj => hR.2.1 _ (List.mem_cons_of_mem _ List.mem_cons_self) (4195394, 16, 505) (List.mem_cons_of_mem _ List.mem_cons_self) rfl j hj
          have fD2 : ∀ s : Nat, s < 8 → s ≠ (S p).toNat → r2 (4195394 + 64 * s) = D s := fun s hs hn => ((fD s (by omega)).trans (yb48_d13 r s hs (by omega))).trans (m5 s hs)
          have t0 : (7 : Int) ≤ r 1048704 ∧ r 1048704 ≤ (7 : Int) := hR.2.2.1 _ List.mem_cons_self
          exact hE0 (yb48a_e hv (by omega)) r2 hr2 G2 (a1049153.trans hZ)
        · have a1048640 : r2 1048640 = (r 1048640 + (1 : Int)) := yas hR List.mem_cons_self
          have a1048704 : r2 1048704 = (r 1048704 + (1 : Int)) := yas hR (List.mem_cons_of_mem _ List.mem_cons_self)
          have a1049153 : r2 1049153 = r 1049153 := yas hR (List.mem_cons_of_mem _ (List.mem_cons_of_mem _ List.mem_cons_self))
          have fS : ∀ j : Nat, j < 16 → r2 (4194310 + 64 * j) = (bif decide (r 1048960 = (j : Int)) then ((0, -1) : ycV) else (0, r (4194310 + 64 * j))).2 := fun j hj => hR.2.1 _ List.mem_cons_self (4194310, 16, 506) List.mem_cons_self rfl j hj
          have fD : ∀ j : Nat, j < 16 → r2 (4195394 + 64 * j) = (xct r (.branch 0 (.leaf (10, .num 4195394)) (.branch 0 (.branch 0 (.leaf (10, .num 4195394)) (.branch 0 (.branch 0 (.leaf (0, .add (.var 4195714) (.num 1))) (.leaf (10, .num 4195394))) (.leaf (10, .num 4195394)))) (.leaf (10, .num 4195394)))) j).2 := fun j hj => hR.2.1 _ (List.mem_cons_of_mem _ List.mem_cons_self) (4195394, 16, 505) (List.mem_cons_of_mem _ List.mem_cons_self) rfl j hj
          have fD2 : ∀ s : Nat, s < 8 → s ≠ (S p).toNat → r2 (4195394 + 64 * s) = D s := fun s hs hn => ((fD s (by omega)).trans (yb48_d13 r s hs (by omega))).trans (m5 s hs)
          have t1 : (0 : Int) ≤ r 1048704 ∧ r 1048704 ≤ (6 : Int) := hR.2.2.1 _ (List.mem_cons_of_mem _ List.mem_cons_self)
          have hv2 := yb48a_n hv (by omega) (by decide)
          have t0 : (19999 : Int) ≤ r 1048640 ∧ r 1048640 ≤ (19999 : Int) := hR.2.2.1 _ List.mem_cons_self
          have hn : n = 0 := by omega
          subst hn
          exact hE3 (yb48_0 hv2) r2 hr2 G2 (a1049153.trans hZ)
        · have a1048577 : r2 1048577 = r 1048577 := yas hR List.mem_cons_self
          have a1048640 : r2 1048640 = (r 1048640 + (1 : Int)) := yas hR (List.mem_cons_of_mem _ List.mem_cons_self)
          have a1048704 : r2 1048704 = (r 1048704 + (1 : Int)) := yas hR (List.mem_cons_of_mem _ (List.mem_cons_of_mem _ List.mem_cons_self))
          have a1049153 : r2 1049153 = r 1049153 := yas hR (List.mem_cons_of_mem _ (List.mem_cons_of_mem _ (List.mem_cons_of_mem _ List.mem_cons_self)))
          have fS : ∀ j : Nat, j < 16 → r2 (4194310 + 64 * j) = (bif decide (r 1048960 = (j : Int)) then ((0, -1) : ycV) else (0, r (4194310 + 64 * j))).2 := fun j hj => hR.2.1 _ List.mem_cons_self (4194310, 16, 506) List.mem_cons_self rfl j hj
          have fD : ∀ j : Nat, j < 16 → r2 (4195394 + 64 * j) = (xct r (.branch 0 (.leaf (10, .num 4195394)) (.branch 0 (.branch 0 (.leaf (10, .num 4195394)) (.branch 0 (.branch 0 (.leaf (0, .add (.var 4195714) (.num 1))) (.leaf (10, .num 4195394))) (.leaf (10, .num 4195394)))) (.leaf (10, .num 4195394)))) j).2 := fun j hj => hR.2.1 _ (List.mem_cons_of_mem _ List.mem_cons_self) (4195394, 16, 505) (List.mem_cons_of_mem _ List.mem_cons_self) rfl j hj
          have fD2 : ∀ s : Nat, s < 8 → s ≠ (S p).toNat → r2 (4195394 + 64 * s) = D s := fun s hs hn => ((fD s (by omega)).trans (yb48_d13 r s hs (by omega))).trans (m5 s hs)
          have t1 : (0 : Int) ≤ r 1048704 ∧ r 1048704 ≤ (6 : Int) := hR.2.2.1 _ (List.mem_cons_of_mem _ List.mem_cons_self)
          have hv2 := yb48a_n hv (by omega) (by decide)
          exact hC r2 w x (f + 1) (yb48u S p (-1)) (fun s => r2 (4195394 + 64 * s)) hr2 G2 (a1049153.trans hZ) ⟨aw, a1048577.trans m2, by omega, fun k hk => yb48_fu (fS k (by omega)) hup rfl (m4 k hk), fun _ _ => rfl, yb48J_step m6 hp (by omega) fD2 (by decide)⟩ (by omega) hv2
    · have H1 := xHc (e := .sub (.var 128) (.var 1048960)) (lo := 2) (hi := 16) H (show (2 : Int) ≤ (r 128 - r 1048960) by omega) (show (r 128 - r 1048960) ≤ (16 : Int) by omega)
      have H2 := xHc (e := .var 1049024) (lo := 1) (hi := 15) H1 (show (1 : Int) ≤ r 1049024 by omega) (show r 1049024 ≤ (15 : Int) by omega)
      refine yz_run hL yq48_V2n hr H2 (xcut_s fun c hc r2 G2 hR => ?_)
      have hr2 : yzr L xs r2 := fun i hi => by rw [hR.2.2.2 i hi]; exact hr i hi
      have aw : r2 128 = w := (hR.2.2.2 128 (by decide)).trans m1
      rw [List.mem_singleton] at hc
      subst hc
      have a1048577 : r2 1048577 = r 1048577 := yas hR List.mem_cons_self
      have a1049024 : r2 1049024 = (r 1049024 + (-1 : Int)) := yas hR (List.mem_cons_of_mem _ List.mem_cons_self)
      have a1048960 : r2 1048960 = (r 1048960 + (1 : Int)) := yas hR (List.mem_cons_of_mem _ (List.mem_cons_of_mem _ List.mem_cons_self))
      have a1048640 : r2 1048640 = r 1048640 := yas hR (List.mem_cons_of_mem _ (List.mem_cons_of_mem _ (List.mem_cons_of_mem _ List.mem_cons_self)))
      have a1048704 : r2 1048704 = r 1048704 := yas hR (List.mem_cons_of_mem _ (List.mem_cons_of_mem _ (List.mem_cons_of_mem _ (List.mem_cons_of_mem _ List.mem_cons_self))))
      have a1049153 : r2 1049153 = r 1049153 := yas hR (List.mem_cons_of_mem _ (List.mem_cons_of_mem _ (List.mem_cons_of_mem _ (List.mem_cons_of_mem _ (List.mem_cons_of_mem _ List.mem_cons_self)))))
      have fS : ∀ j : Nat, j < 16 → r2 (4194310 + 64 * j) = r (4194310 + 64 * j) := fun j hj => hR.2.1 _ List.mem_cons_self (4194310, 16, 506) List.mem_cons_self rfl j hj
      have fD : ∀ j : Nat, j < 16 → r2 (4195394 + 64 * j) = r (4195394 + 64 * j) := fun j hj => hR.2.1 _ (List.mem_cons_of_mem _ List.mem_cons_self) (4195394, 16, 505) (List.mem_cons_of_mem _ List.mem_cons_self) rfl j hj
      exact ih r2 hr2 G2 (a1049153.trans hZ) ⟨aw, a1048577.trans m2, a1048704.trans m3, fun k hk => (fS k (by omega)).trans (m4 k hk), fun s hs => (fD s (by omega)).trans (m5 s hs), m6⟩ (by omega) (by omega) (by omega)
theorem y48_R3 {L : Nat} {xs : Nat → Int32} (hL : L ≤ 3584) {y0 : Int} {n : Nat} (hW : yb48V L xs (yZ1 y0) y0 yt48_V3 yF48_V3 n 3) : yb48C L xs (yZ1 y0) y0 yt48_R3 yF48_R3 (n + 1) 3 := by
  intro r w x f S D hr H hZ hM hT hy
  obtain ⟨m1, m2, m3, m4, m5, m6⟩ := hM
  have hw : 1 ≤ r 128 ∧ r 128 ≤ 16 := xbd_s H (e := .var 128) (lo := 1) (hi := 16) (by decide +kernel)
  have hw2 : 1 ≤ w ∧ w ≤ 16 := by omega
  have H1 := xHc (e := .sub (.var 128) (.pow (.add (.pow (.add (.pow (.add (.pow (.add (.var 1048577) (.num 6364136223846793005)) 38) (.num 1442695040888963407)) 36) (.num 33)) 51) (.var 128)) 40)) (lo := 1) (hi := 16) H (by rw [xden_sub, xden_var, yb48P_d, m1, m2]; exact (yb48_w1 (yb48P_r hw2.1 hw2.2) hw2.2).1) (by rw [xden_sub, xden_var, yb48P_d, m1, m2]; exact (yb48_w1 (yb48P_r hw2.1 hw2.2) hw2.2).2)
  refine yz_run hL yq48_R3 hr H1 (xcut_s fun c hc r2 G2 hR => ?_)
  have hr2 : yzr L xs r2 := fun i hi => by rw [hR.2.2.2 i hi]; exact hr i hi
  have aw : r2 128 = w := (hR.2.2.2 128 (by decide)).trans m1
  rw [List.mem_singleton] at hc
  subst hc
  have a1048960 : r2 1048960 = (0 : Int) := yas hR (List.mem_cons_of_mem _ (List.mem_cons_of_mem _ List.mem_cons_self))
  have a1048640 : r2 1048640 = r 1048640 := yas hR (List.mem_cons_of_mem _ (List.mem_cons_of_mem _ (List.mem_cons_of_mem _ List.mem_cons_self)))
  have a1048704 : r2 1048704 = r 1048704 := yas hR (List.mem_cons_of_mem _ (List.mem_cons_of_mem _ (List.mem_cons_of_mem _ (List.mem_cons_of_mem _ List.mem_cons_self))))
  have a1049153 : r2 1049153 = r 1049153 := yas hR (List.mem_cons_of_mem _ (List.mem_cons_of_mem _ (List.mem_cons_of_mem _ (List.mem_cons_of_mem _ (List.mem_cons_of_mem _ List.mem_cons_self)))))
  have fS : ∀ j : Nat, j < 16 → r2 (4194310 + 64 * j) = r (4194310 + 64 * j) := fun j hj => hR.2.1 _ List.mem_cons_self (4194310, 16, 506) List.mem_cons_self rfl j hj
  have fD : ∀ j : Nat, j < 16 → r2 (4195394 + 64 * j) = r (4195394 + 64 * j) := fun j hj => hR.2.1 _ (List.mem_cons_of_mem _ List.mem_cons_self) (4195394, 16, 505) (List.mem_cons_of_mem _ List.mem_cons_self) rfl j hj
  have o1 := hT
  have gS : ∀ k : Nat, (k : Int) < w → r2 (4194310 + 64 * k) = S k := fun k hk => (fS k (by omega)).trans (m4 k hk)
  have gD : ∀ s : Nat, s < 8 → r2 (4195394 + 64 * s) = D s := fun s hs => (fD s (by omega)).trans (m5 s hs)
  have gT : r2 1048640 + (n : Int) + 1 = 20000 := by omega
  have a1048577 : r2 1048577 = yb48X (r 1048577) := (yas hR List.mem_cons_self).trans (yb48X_d r)
  have a1049024 : r2 1049024 = yb48P (r 128) (r 1048577) := (yas hR (List.mem_cons_of_mem _ List.mem_cons_self)).trans (yb48P_d r)
  exact hW r2 w (yb48X x) f S D (yb48P w x).toNat hr2 G2 (a1049153.trans hZ) ⟨aw, by rw [a1048577, m2], a1048704.trans m3, gS, gD, m6⟩ gT (yb48_w2 (yb48P_r hw2.1 hw2.2)) (by rw [a1049024, a1048960, m1, m2]; exact yb48_w4 (yb48P_r hw2.1 hw2.2)) (yb48_t hy)
theorem y48_V3 {L : Nat} {xs : Nat → Int32} (hL : L ≤ 3584) {y0 : Int} {n : Nat} (hC : yb48C L xs (yZ1 y0) y0 yt48_R3 yF48_R3 n 3) (hC1 : yb48C L xs (yZ1 y0) y0 yt48_R2 yF48_R2 n 2) (hE0 : yb48E L xs (yZ1 y0) y0 (0) yt48_X0 yF48_X0) (hE3 : yb48E L xs (yZ1 y0) y0 (-3) yt48_X3 yF48_X3) : yb48V L xs (yZ1 y0) y0 yt48_V3 yF48_V3 n 3 := by
  intro r w x f S D p hr H hZ hM hT hp hP hy
  suffices main : ∀ d : Nat, ∀ r, yzr L xs r → xH r yF48_V3 → (yZ1 y0) r → yb48M r w 3 x f S D → r 1048640 + (n : Int) + 1 = 20000 → r 1049024 + r 1048960 = (p : Int) → r 1049024 < (d : Int) → xGl (yfT (ykold L xs)) r yzP yt48_V3 from
    main 16 r hr H hZ hM hT hP (by
      have hPb : 0 ≤ r 1049024 ∧ r 1049024 ≤ 15 := xbd_s H (e := .var 1049024) (lo := 0) (hi := 15) (by decide +kernel)
      omega)
  intro d
  induction d with
  | zero =>
    intro r hr H hZ hM hT hP hd
    have hPb : 0 ≤ r 1049024 ∧ r 1049024 ≤ 15 := xbd_s H (e := .var 1049024) (lo := 0) (hi := 15) (by decide +kernel)
    omega
  | succ d ih =>
    intro r hr H hZ hM hT hP hd
    have hPb : 0 ≤ r 1049024 ∧ r 1049024 ≤ 15 := xbd_s H (e := .var 1049024) (lo := 0) (hi := 15) (by decide +kernel)
    obtain ⟨m1, m2, m3, m4, m5, m6⟩ := hM
    have hw : 1 ≤ r 128 ∧ r 128 ≤ 16 := xbd_s H (e := .var 128) (lo := 1) (hi := 16) (by decide +kernel)
    have hu : 0 ≤ r 1048960 ∧ r 1048960 ≤ 15 := xbd_s H (e := .var 1048960) (lo := 0) (hi := 15) (by decide +kernel)
    have hf : 0 ≤ r 1048704 ∧ r 1048704 ≤ 7 := xbd_s H (e := .var 1048704) (lo := 0) (hi := 7) (by decide +kernel)
    by_cases hup0 : r 1049024 = 0
    · have hup : r 1048960 = (p : Int) := by omega
      have es : r (4194310 + 64 * (r 1048960).toNat) = S p := by
        have e0 : (r 1048960).toNat = p := by omega
        rw [e0]
        exact m4 p hp
      have j1 := m6.1 p hp
      have e : S p = -1 ∨ S p = 0 ∨ S p = 1 ∨ S p = 2 ∨ S p = 3 ∨ S p = 4 := by omega
      rcases e with e | e | e | e | e | e
      · have hv := yb48w_t (q := 2) hy e
        have hv2 := yb48a_n hv (by omega) (by decide)
        have H1 := xHc (e := .sub (.var 128) (.var 1048960)) (lo := 1) (hi := 16) H (show (1 : Int) ≤ (r 128 - r 1048960) by omega) (show (r 128 - r 1048960) ≤ (16 : Int) by omega)
        have H2 := xHc (e := .var 1049024) (lo := 0) (hi := 0) H1 (show (0 : Int) ≤ r 1049024 by omega) (show r 1049024 ≤ (0 : Int) by omega)
        have H3 := xHc (e := .pow (.sub (.num 4194310) (.var 1048960)) 0) (lo := -1) (hi := -1) H2 (show (-1 : Int) ≤ r (4194310 + 64 * (r 1048960).toNat) by omega) (show r (4194310 + 64 * (r 1048960).toNat) ≤ (-1 : Int) by omega)
        refine yz_run hL yq48_V3t hr H3 (xcut_s fun c hc r2 G2 hR => ?_)
        have hr2 : yzr L xs r2 := fun i hi => by rw [hR.2.2.2 i hi]; exact hr i hi
        have aw : r2 128 = w := (hR.2.2.2 128 (by decide)).trans m1
        simp only [List.mem_cons, List.not_mem_nil, or_false] at hc
        rcases hc with rfl | rfl
        · have a1048640 : r2 1048640 = (r 1048640 + (1 : Int)) := yas hR List.mem_cons_self
          have a1048704 : r2 1048704 = r 1048704 := yas hR (List.mem_cons_of_mem _ List.mem_cons_self)
          have a1049153 : r2 1049153 = r 1049153 := yas hR (List.mem_cons_of_mem _ (List.mem_cons_of_mem _ List.mem_cons_self))
          have fS : ∀ j : Nat, j < 16 → r2 (4194310 + 64 * j) = (bif decide (r 1048960 = (j : Int)) then ((0, 5) : ycV) else (0, r (4194310 + 64 * j))).2 := fun j hj => hR.2.1 _ List.mem_cons_self (4194310, 16, 506) List.mem_cons_self rfl j hj
          have fD : ∀ j : Nat, j < 16 → r2 (4195394 + 64 * j) = r (4195394 + 64 * j) := fun j hj => hR.2.1 _ (List.mem_cons_of_mem _ List.mem_cons_self) (4195394, 16, 505) (List.mem_cons_of_mem _ List.mem_cons_self) rfl j hj
          have t0 : (19999 : Int) ≤ r 1048640 ∧ r 1048640 ≤ (19999 : Int) := hR.2.2.1 _ List.mem_cons_self
          have hn : n = 0 := by omega
          subst hn
          exact hE3 (yb48_0 hv2) r2 hr2 G2 (a1049153.trans hZ)
        · have a1048577 : r2 1048577 = r 1048577 := yas hR List.mem_cons_self
          have a1048640 : r2 1048640 = (r 1048640 + (1 : Int)) := yas hR (List.mem_cons_of_mem _ List.mem_cons_self)
          have a1048704 : r2 1048704 = r 1048704 := yas hR (List.mem_cons_of_mem _ (List.mem_cons_of_mem _ List.mem_cons_self))
          have a1049153 : r2 1049153 = r 1049153 := yas hR (List.mem_cons_of_mem _ (List.mem_cons_of_mem _ (List.mem_cons_of_mem _ List.mem_cons_self)))
          have fS : ∀ j : Nat, j < 16 → r2 (4194310 + 64 * j) = (bif decide (r 1048960 = (j : Int)) then ((0, 5) : ycV) else (0, r (4194310 + 64 * j))).2 := fun j hj => hR.2.1 _ List.mem_cons_self (4194310, 16, 506) List.mem_cons_self rfl j hj
          have fD : ∀ j : Nat, j < 16 → r2 (4195394 + 64 * j) = r (4195394 + 64 * j) := fun j hj => hR.2.1 _ (List.mem_cons_of_mem _ List.mem_cons_self) (4195394, 16, 505) (List.mem_cons_of_mem _ List.mem_cons_self) rfl j hj
          exact hC1 r2 w x f (yb48u S p (8 - ((2 + 1 : Nat) : Int))) D hr2 G2 (a1049153.trans hZ) ⟨aw, a1048577.trans m2, a1048704.trans m3, fun k hk => yb48_fu (fS k (by omega)) hup (by decide) (m4 k hk), fun s hs => (fD s (by omega)).trans (m5 s hs), yb48J_take m6 hp (by decide)⟩ (by omega) hv2
      · have hv := yb48w_s hy (by omega)
        have ed : r 4195394 = 0 := (m5 0 (by decide)).trans (by
          have z := m6.2.2.1 p hp (by omega)
          rw [e] at z
          exact z)
        have H1 := xHc (e := .sub (.var 128) (.var 1048960)) (lo := 1) (hi := 16) H (show (1 : Int) ≤ (r 128 - r 1048960) by omega) (show (r 128 - r 1048960) ≤ (16 : Int) by omega)
        have H2 := xHc (e := .var 1049024) (lo := 0) (hi := 0) H1 (show (0 : Int) ≤ r 1049024 by omega) (show r 1049024 ≤ (0 : Int) by omega)
        have H3 := xHc (e := .pow (.sub (.num 4194310) (.var 1048960)) 0) (lo := 0) (hi := 0) H2 (show (0 : Int) ≤ r (4194310 + 64 * (r 1048960).toNat) by omega) (show r (4194310 + 64 * (r 1048960).toNat) ≤ (0 : Int) by omega)
        have H4 := xHc (e := .var 4195394) (lo := 0) (hi := 0) H3 (show (0 : Int) ≤ r 4195394 by omega) (show r 4195394 ≤ (0 : Int) by omega)
        refine yz_run hL yq48_V3s0 hr H4 (xcut_s fun c hc r2 G2 hR => ?_)
        have hr2 : yzr L xs r2 := fun i hi => by rw [hR.2.2.2 i hi]; exact hr i hi
        have aw : r2 128 = w := (hR.2.2.2 128 (by decide)).trans m1
        simp only [List.mem_cons, List.not_mem_nil, or_false] at hc
        rcases hc with rfl | rfl | rfl
        · have a1048640 : r2 1048640 = (r 1048640 + (1 : Int)) := yas hR List.mem_cons_self
          have a1048704 : r2 1048704 = (r 1048704 + (1 : Int)) := yas hR (List.mem_cons_of_mem _ List.mem_cons_self)
          have a1049153 : r2 1049153 = r 1049153 := yas hR (List.mem_cons_of_mem _ (List.mem_cons_of_mem _ List.mem_cons_self))
          have fS : ∀ j : Nat, j < 16 → r2 (4194310 + 64 * j) = (bif decide (r 1048960 = (j : Int)) then ((0, -1) : ycV) else (0, r (4194310 + 64 * j))).2 := fun j hj => hR.2.1 _ List.mem_cons_self (4194310, 16, 506) List.mem_cons_self rfl j hj
          have fD : ∀ j : Nat, j < 16 → r2 (4195394 + 64 * j) = (xct r (.branch 0 (.branch 0 (.branch 0 (.branch 0 (.branch 0 (.leaf (0, .add (.var 4195394) (.num 1))) (.leaf (10, .num 4195394))) (.leaf (10, .num 4195394))) (.leaf (10, .num 4195394))) (.leaf (10, .num 4195394))) (.leaf (10, .num 4195394))) j).2 := fun j hj => hR.2.1 _ (List.mem_cons_of_mem _ List.mem_cons_self) (4195394, 16, 505) (List.mem_cons_of_mem _ List.mem_cons_self) rfl j hj
          have fD2 : ∀ s : Nat, s < 8 → s ≠ (S p).toNat → r2 (4195394 + 64 * s) = D s := fun s hs hn => ((fD s (by omega)).trans (yb48_d8 r s hs (by omega))).trans (m5 s hs)
          have t0 : (7 : Int) ≤ r 1048704 ∧ r 1048704 ≤ (7 : Int) := hR.2.2.1 _ List.mem_cons_self
          exact hE0 (yb48a_e hv (by omega)) r2 hr2 G2 (a1049153.trans hZ)
        · have a1048640 : r2 1048640 = (r 1048640 + (1 : Int)) := yas hR List.mem_cons_self
          have a1048704 : r2 1048704 = (r 1048704 + (1 : Int)) := yas hR (List.mem_cons_of_mem _ List.mem_cons_self)
          have a1049153 : r2 1049153 = r 1049153 := yas hR (List.mem_cons_of_mem _ (List.mem_cons_of_mem _ List.mem_cons_self))
          have fS : ∀ j : Nat, j < 16 → r2 (4194310 + 64 * j) = (bif decide (r 1048960 = (j : Int)) then ((0, -1) : ycV) else (0, r (4194310 + 64 * j))).2 := fun j hj => hR.2.1 _ List.mem_cons_self (4194310, 16, 506) List.mem_cons_self rfl j hj
          have fD : ∀ j : Nat, j < 16 → r2 (4195394 + 64 * j) = (xct r (.branch 0 (.branch 0 (.branch 0 (.branch 0 (.branch 0 (.leaf (0, .add (.var 4195394) (.num 1))) (.leaf (10, .num 4195394))) (.leaf (10, .num 4195394))) (.leaf (10, .num 4195394))) (.leaf (10, .num 4195394))) (.leaf (10, .num 4195394))) j).2 := fun j hj => hR.2.1 _ (List.mem_cons_of_mem _ List.mem_cons_self) (4195394, 16, 505) (List.mem_cons_of_mem _ List.mem_cons_self) rfl j hj
          have fD2 : ∀ s : Nat, s < 8 → s ≠ (S p).toNat → r2 (4195394 + 64 * s) = D s := fun s hs hn => ((fD s (by omega)).trans (yb48_d8 r s hs (by omega))).trans (m5 s hs)
          have t1 : (0 : Int) ≤ r 1048704 ∧ r 1048704 ≤ (6 : Int) := hR.2.2.1 _ (List.mem_cons_of_mem _ List.mem_cons_self)
          have hv2 := yb48a_n hv (by omega) (by decide)
          have t0 : (19999 : Int) ≤ r 1048640 ∧ r 1048640 ≤ (19999 : Int) := hR.2.2.1 _ List.mem_cons_self
          have hn : n = 0 := by omega
          subst hn
          exact hE3 (yb48_0 hv2) r2 hr2 G2 (a1049153.trans hZ)
        · have a1048577 : r2 1048577 = r 1048577 := yas hR List.mem_cons_self
          have a1048640 : r2 1048640 = (r 1048640 + (1 : Int)) := yas hR (List.mem_cons_of_mem _ List.mem_cons_self)
          have a1048704 : r2 1048704 = (r 1048704 + (1 : Int)) := yas hR (List.mem_cons_of_mem _ (List.mem_cons_of_mem _ List.mem_cons_self))
          have a1049153 : r2 1049153 = r 1049153 := yas hR (List.mem_cons_of_mem _ (List.mem_cons_of_mem _ (List.mem_cons_of_mem _ List.mem_cons_self)))
          have fS : ∀ j : Nat, j < 16 → r2 (4194310 + 64 * j) = (bif decide (r 1048960 = (j : Int)) then ((0, -1) : ycV) else (0, r (4194310 + 64 * j))).2 := fun j hj => hR.2.1 _ List.mem_cons_self (4194310, 16, 506) List.mem_cons_self rfl j hj
          have fD : ∀ j : Nat, j < 16 → r2 (4195394 + 64 * j) = (xct r (.branch 0 (.branch 0 (.branch 0 (.branch 0 (.branch 0 (.leaf (0, .add (.var 4195394) (.num 1))) (.leaf (10, .num 4195394))) (.leaf (10, .num 4195394))) (.leaf (10, .num 4195394))) (.leaf (10, .num 4195394))) (.leaf (10, .num 4195394))) j).2 := fun j hj => hR.2.1 _ (List.mem_cons_of_mem _ List.mem_cons_self) (4195394, 16, 505) (List.mem_cons_of_mem _ List.mem_cons_self) rfl j hj
          have fD2 : ∀ s : Nat, s < 8 → s ≠ (S p).toNat → r2 (4195394 + 64 * s) = D s := fun s hs hn => ((fD s (by omega)).trans (yb48_d8 r s hs (by omega))).trans (m5 s hs)
          have t1 : (0 : Int) ≤ r 1048704 ∧ r 1048704 ≤ (6 : Int) := hR.2.2.1 _ (List.mem_cons_of_mem _ List.mem_cons_self)
          have hv2 := yb48a_n hv (by omega) (by decide)
          exact hC r2 w x (f + 1) (yb48u S p (-1)) (fun s => r2 (4195394 + 64 * s)) hr2 G2 (a1049153.trans hZ) ⟨aw, a1048577.trans m2, by omega, fun k hk => yb48_fu (fS k (by omega)) hup rfl (m4 k hk), fun _ _ => rfl, yb48J_step m6 hp (by omega) fD2 (by decide)⟩ (by omega) hv2
      · have hv := yb48w_s hy (by omega)
        have ed : r 4195458 = 0 := (m5 1 (by decide)).trans (by
          have z := m6.2.2.1 p hp (by omega)
          rw [e] at z
          exact z)
        have H1 := xHc (e := .sub (.var 128) (.var 1048960)) (lo := 1) (hi := 16) H (show (1 : Int) ≤ (r 128 - r 1048960) by omega) (show (r 128 - r 1048960) ≤ (16 : Int) by omega)
        have H2 := xHc (e := .var 1049024) (lo := 0) (hi := 0) H1 (show (0 : Int) ≤ r 1049024 by omega) (show r 1049024 ≤ (0 : Int) by omega)
        have H3 := xHc (e := .pow (.sub (.num 4194310) (.var 1048960)) 0) (lo := 1) (hi := 1) H2 (show (1 : Int) ≤ r (4194310 + 64 * (r 1048960).toNat) by omega) (show r (4194310 + 64 * (r 1048960).toNat) ≤ (1 : Int) by omega)
        have H4 := xHc (e := .var 4195458) (lo := 0) (hi := 0) H3 (show (0 : Int) ≤ r 4195458 by omega) (show r 4195458 ≤ (0 : Int) by omega)
        refine yz_run hL yq48_V3s1 hr H4 (xcut_s fun c hc r2 G2 hR => ?_)
        have hr2 : yzr L xs r2 := fun i hi => by rw [hR.2.2.2 i hi]; exact hr i hi
        have aw : r2 128 = w := (hR.2.2.2 128 (by decide)).trans m1
        simp only [List.mem_cons, List.not_mem_nil, or_false] at hc
        rcases hc with rfl | rfl | rfl
        · have a1048640 : r2 1048640 = (r 1048640 + (1 : Int)) := yas hR List.mem_cons_self
          have a1048704 : r2 1048704 = (r 1048704 + (1 : Int)) := yas hR (List.mem_cons_of_mem _ List.mem_cons_self)
          have a1049153 : r2 1049153 = r 1049153 := yas hR (List.mem_cons_of_mem _ (List.mem_cons_of_mem _ List.mem_cons_self))
          have fS : ∀ j : Nat, j < 16 → r2 (4194310 + 64 * j) = (bif decide (r 1048960 = (j : Int)) then ((0, -1) : ycV) else (0, r (4194310 + 64 * j))).2 := fun j hj => hR.2.1 _ List.mem_cons_self (4194310, 16, 506) List.mem_cons_self rfl j hj
          have fD : ∀ j : Nat, j < 16 → r2 (4195394 + 64 * j) = (xct r (.branch 0 (.leaf (10, .num 4195394)) (.branch 0 (.branch 0 (.branch 0 (.branch 0 (.leaf (0, .add (.var 4195458) (.num 1))) (.leaf (10, .num 4195394))) (.leaf (10, .num 4195394))) (.leaf (10, .num 4195394))) (.leaf (10, .num 4195394)))) j).2 := fun j hj => hR.2.1 _ (List.mem_cons_of_mem _ List.mem_cons_self) (4195394, 16, 505) (List.mem_cons_of_mem _ List.mem_cons_self) rfl j hj
          have fD2 : ∀ s : Nat, s < 8 → s ≠ (S p).toNat → r2 (4195394 + 64 * s) = D s := fun s hs hn => ((fD s (by omega)).trans (yb48_d9 r s hs (by omega))).trans (m5 s hs)
          have t0 : (7 : Int) ≤ r 1048704 ∧ r 1048704 ≤ (7 : Int) := hR.2.2.1 _ List.mem_cons_self
          exact hE0 (yb48a_e hv (by omega)) r2 hr2 G2 (a1049153.trans hZ)
        · have a1048640 : r2 1048640 = (r 1048640 + (1 : Int)) := yas hR List.mem_cons_self
          have a1048704 : r2 1048704 = (r 1048704 + (1 : Int)) := yas hR (List.mem_cons_of_mem _ List.mem_cons_self)
          have a1049153 : r2 1049153 = r 1049153 := yas hR (List.mem_cons_of_mem _ (List.mem_cons_of_mem _ List.mem_cons_self))
          have fS : ∀ j : Nat, j < 16 → r2 (4194310 + 64 * j) = (bif decide (r 1048960 = (j : Int)) then ((0, -1) : ycV) else (0, r (4194310 + 64 * j))).2 := fun j hj => hR.2.1 _ List.mem_cons_self (4194310, 16, 506) List.mem_cons_self rfl j hj
          have fD : ∀ j : Nat, j < 16 → r2 (4195394 + 64 * j) = (xct r (.branch 0 (.leaf (10, .num 4195394)) (.branch 0 (.branch 0 (.branch 0 (.branch 0 (.leaf (0, .add (.var 4195458) (.num 1))) (.leaf (10, .num 4195394))) (.leaf (10, .num 4195394))) (.leaf (10, .num 4195394))) (.leaf (10, .num 4195394)))) j).2 := fun j hj => hR.2.1 _ (List.mem_cons_of_mem _ List.mem_cons_self) (4195394, 16, 505) (List.mem_cons_of_mem _ List.mem_cons_self) rfl j hj
          have fD2 : ∀ s : Nat, s < 8 → s ≠ (S p).toNat → r2 (4195394 + 64 * s) = D s := fun s hs hn => ((fD s (by omega)).trans (yb48_d9 r s hs (by omega))).trans (m5 s hs)
          have t1 : (0 : Int) ≤ r 1048704 ∧ r 1048704 ≤ (6 : Int) := hR.2.2.1 _ (List.mem_cons_of_mem _ List.mem_cons_self)
          have hv2 := yb48a_n hv (by omega) (by decide)
          have t0 : (19999 : Int) ≤ r 1048640 ∧ r 1048640 ≤ (19999 : Int) := hR.2.2.1 _ List.mem_cons_self
          have hn : n = 0 := by omega
          subst hn
          exact hE3 (yb48_0 hv2) r2 hr2 G2 (a1049153.trans hZ)
        · have a1048577 : r2 1048577 = r 1048577 := yas hR List.mem_cons_self
          have a1048640 : r2 1048640 = (r 1048640 + (1 : Int)) := yas hR (List.mem_cons_of_mem _ List.mem_cons_self)
          have a1048704 : r2 1048704 = (r 1048704 + (1 : Int)) := yas hR (List.mem_cons_of_mem _ (List.mem_cons_of_mem _ List.mem_cons_self))
          have a1049153 : r2 1049153 = r 1049153 := yas hR (List.mem_cons_of_mem _ (List.mem_cons_of_mem _ (List.mem_cons_of_mem _ List.mem_cons_self)))
          have fS : ∀ j : Nat, j < 16 → r2 (4194310 + 64 * j) = (bif decide (r 1048960 = (j : Int)) then ((0, -1) : ycV) else (0, r (4194310 + 64 * j))).2 := fun j hj => hR.2.1 _ List.mem_cons_self (4194310, 16, 506) List.mem_cons_self rfl j hj
          have fD : ∀ j : Nat, j < 16 → r2 (4195394 + 64 * j) = (xct r (.branch 0 (.leaf (10, .num 4195394)) (.branch 0 (.branch 0 (.branch 0 (.branch 0 (.leaf (0, .add (.var 4195458) (.num 1))) (.leaf (10, .num 4195394))) (.leaf (10, .num 4195394))) (.leaf (10, .num 4195394))) (.leaf (10, .num 4195394)))) j).2 := fun j hj => hR.2.1 _ (List.mem_cons_of_mem _ List.mem_cons_self) (4195394, 16, 505) (List.mem_cons_of_mem _ List.mem_cons_self) rfl j hj
          have fD2 : ∀ s : Nat, s < 8 → s ≠ (S p).toNat → r2 (4195394 + 64 * s) = D s := fun s hs hn => ((fD s (by omega)).trans (yb48_d9 r s hs (by omega))).trans (m5 s hs)
          have t1 : (0 : Int) ≤ r 1048704 ∧ r 1048704 ≤ (6 : Int) := hR.2.2.1 _ (List.mem_cons_of_mem _ List.mem_cons_self)
          have hv2 := yb48a_n hv (by omega) (by decide)
          exact hC r2 w x (f + 1) (yb48u S p (-1)) (fun s => r2 (4195394 + 64 * s)) hr2 G2 (a1049153.trans hZ) ⟨aw, a1048577.trans m2, by omega, fun k hk => yb48_fu (fS k (by omega)) hup rfl (m4 k hk), fun _ _ => rfl, yb48J_step m6 hp (by omega) fD2 (by decide)⟩ (by omega) hv2
      · have hv := yb48w_s hy (by omega)
        have ed : r 4195522 = 0 := (m5 2 (by decide)).trans (by
          have z := m6.2.2.1 p hp (by omega)
          rw [e] at z
          exact z)
        have H1 := xHc (e := .sub (.var 128) (.var 1048960)) (lo := 1) (hi := 16) H (show (1 : Int) ≤ (r 128 - r 1048960) by omega) (show (r 128 - r 1048960) ≤ (16 : Int) by omega)
        have H2 := xHc (e := .var 1049024) (lo := 0) (hi := 0) H1 (show (0 : Int) ≤ r 1049024 by omega) (show r 1049024 ≤ (0 : Int) by omega)
        have H3 := xHc (e := .pow (.sub (.num 4194310) (.var 1048960)) 0) (lo := 2) (hi := 2) H2 (show (2 : Int) ≤ r (4194310 + 64 * (r 1048960).toNat) by omega) (show r (4194310 + 64 * (r 1048960).toNat) ≤ (2 : Int) by omega)
        have H4 := xHc (e := .var 4195522) (lo := 0) (hi := 0) H3 (show (0 : Int) ≤ r 4195522 by omega) (show r 4195522 ≤ (0 : Int) by omega)
        refine yz_run hL yq48_V3s2 hr H4 (xcut_s fun c hc r2 G2 hR => ?_)
        have hr2 : yzr L xs r2 := fun i hi => by rw [hR.2.2.2 i hi]; exact hr i hi
        have aw : r2 128 = w := (hR.2.2.2 128 (by decide)).trans m1
        simp only [List.mem_cons, List.not_mem_nil, or_false] at hc
        rcases hc with rfl | rfl | rfl
        · have a1048640 : r2 1048640 = (r 1048640 + (1 : Int)) := yas hR List.mem_cons_self
          have a1048704 : r2 1048704 = (r 1048704 + (1 : Int)) := yas hR (List.mem_cons_of_mem _ List.mem_cons_self)
          have a1049153 : r2 1049153 = r 1049153 := yas hR (List.mem_cons_of_mem _ (List.mem_cons_of_mem _ List.mem_cons_self))
          have fS : ∀ j : Nat, j < 16 → r2 (4194310 + 64 * j) = (bif decide (r 1048960 = (j : Int)) then ((0, -1) : ycV) else (0, r (4194310 + 64 * j))).2 := fun j hj => hR.2.1 _ List.mem_cons_self (4194310, 16, 506) List.mem_cons_self rfl j hj
          have fD : ∀ j : Nat, j < 16 → r2 (4195394 + 64 * j) = (xct r (.branch 0 (.branch 0 (.leaf (10, .num 4195394)) (.branch 0 (.branch 0 (.branch 0 (.leaf (0, .add (.var 4195522) (.num 1))) (.leaf (10, .num 4195394))) (.leaf (10, .num 4195394))) (.leaf (10, .num 4195394)))) (.leaf (10, .num 4195394))) j).2 := fun j hj => hR.2.1 _ (List.mem_cons_of_mem _ List.mem_cons_self) (4195394, 16, 505) (List.mem_cons_of_mem _ List.mem_cons_self) rfl j hj
          have fD2 : ∀ s : Nat, s < 8 → s ≠ (S p).toNat → r2 (4195394 + 64 * s) = D s := fun s hs hn => ((fD s (by omega)).trans (yb48_d10 r s hs (by omega))).trans (m5 s hs)
          have t0 : (7 : Int) ≤ r 1048704 ∧ r 1048704 ≤ (7 : Int) := hR.2.2.1 _ List.mem_cons_self
          exact hE0 (yb48a_e hv (by omega)) r2 hr2 G2 (a1049153.trans hZ)
        · have a1048640 : r2 1048640 = (r 1048640 + (1 : Int)) := yas hR List.mem_cons_self
          have a1048704 : r2 1048704 = (r 1048704 + (1 : Int)) := yas hR (List.mem_cons_of_mem _ List.mem_cons_self)
          have a1049153 : r2 1049153 = r 1049153 := yas hR (List.mem_cons_of_mem _ (List.mem_cons_of_mem _ List.mem_cons_self))
          have fS : ∀ j : Nat, j < 16 → r2 (4194310 + 64 * j) = (bif decide (r 1048960 = (j : Int)) then ((0, -1) : ycV) else (0, r (4194310 + 64 * j))).2 := fun j hj => hR.2.1 _ List.mem_cons_self (4194310, 16, 506) List.mem_cons_self rfl j hj
          have fD : ∀ j : Nat, j < 16 → r2 (4195394 + 64 * j) = (xct r (.branch 0 (.branch 0 (.leaf (10, .num 4195394)) (.branch 0 (.branch 0 (.branch 0 (.leaf (0, .add (.var 4195522) (.num 1))) (.leaf (10, .num 4195394))) (.leaf (10, .num 4195394))) (.leaf (10, .num 4195394)))) (.leaf (10, .num 4195394))) j).2 := fun j hj => hR.2.1 _ (List.mem_cons_of_mem _ List.mem_cons_self) (4195394, 16, 505) (List.mem_cons_of_mem _ List.mem_cons_self) rfl j hj
          have fD2 : ∀ s : Nat, s < 8 → s ≠ (S p).toNat → r2 (4195394 + 64 * s) = D s := fun s hs hn => ((fD s (by omega)).trans (yb48_d10 r s hs (by omega))).trans (m5 s hs)
          have t1 : (0 : Int) ≤ r 1048704 ∧ r 1048704 ≤ (6 : Int) := hR.2.2.1 _ (List.mem_cons_of_mem _ List.mem_cons_self)
          have hv2 := yb48a_n hv (by omega) (by decide)
          have t0 : (19999 : Int) ≤ r 1048640 ∧ r 1048640 ≤ (19999 : Int) := hR.2.2.1 _ List.mem_cons_self
          have hn : n = 0 := by omega
          subst hn
          exact hE3 (yb48_0 hv2) r2 hr2 G2 (a1049153.trans hZ)
        · have a1048577 : r2 1048577 = r 1048577 := yas hR List.mem_cons_self
          have a1048640 : r2 1048640 = (r 1048640 + (1 : Int)) := yas hR (List.mem_cons_of_mem _ List.mem_cons_self)
          have a1048704 : r2 1048704 = (r 1048704 + (1 : Int)) := yas hR (List.mem_cons_of_mem _ (List.mem_cons_of_mem _ List.mem_cons_self))
          have a1049153 : r2 1049153 = r 1049153 := yas hR (List.mem_cons_of_mem _ (List.mem_cons_of_mem _ (List.mem_cons_of_mem _ List.mem_cons_self)))
          have fS : ∀ j : Nat, j < 16 → r2 (4194310 + 64 * j) = (bif decide (r 1048960 = (j : Int)) then ((0, -1) : ycV) else (0, r (4194310 + 64 * j))).2 := fun j hj => hR.2.1 _ List.mem_cons_self (4194310, 16, 506) List.mem_cons_self rfl j hj
          have fD : ∀ j : Nat, j < 16 → r2 (4195394 + 64 * j) = (xct r (.branch 0 (.branch 0 (.leaf (10, .num 4195394)) (.branch 0 (.branch 0 (.branch 0 (.leaf (0, .add (.var 4195522) (.num 1))) (.leaf (10, .num 4195394))) (.leaf (10, .num 4195394))) (.leaf (10, .num 4195394)))) (.leaf (10, .num 4195394))) j).2 := fun j hj => hR.2.1 _ (List.mem_cons_of_mem _ List.mem_cons_self) (4195394, 16, 505) (List.mem_cons_of_mem _ List.mem_cons_self) rfl j hj
          have fD2 : ∀ s : Nat, s < 8 → s ≠ (S p).toNat → r2 (4195394 + 64 * s) = D s := fun s hs hn => ((fD s (by omega)).trans (yb48_d10 r s hs (by omega))).trans (m5 s hs)
          have t1 : (0 : Int) ≤ r 1048704 ∧ r 1048704 ≤ (6 : Int) := hR.2.2.1 _ (List.mem_cons_of_mem _ List.mem_cons_self)
          have hv2 := yb48a_n hv (by omega) (by decide)
          exact hC r2 w x (f + 1) (yb48u S p (-1)) (fun s => r2 (4195394 + 64 * s)) hr2 G2 (a1049153.trans hZ) ⟨aw, a1048577.trans m2, by omega, fun k hk => yb48_fu (fS k (by omega)) hup rfl (m4 k hk), fun _ _ => rfl, yb48J_step m6 hp (by omega) fD2 (by decide)⟩ (by omega) hv2
      · have hv := yb48w_s hy (by omega)
        have ed : r 4195586 = 0 := (m5 3 (by decide)).trans (by
          have z := m6.2.2.1 p hp (by omega)
          rw [e] at z
          exact z)
        have H1 := xHc (e := .sub (.var 128) (.var 1048960)) (lo := 1) (hi := 16) H (show (1 : Int) ≤ (r 128 - r 1048960) by omega) (show (r 128 - r 1048960) ≤ (16 : Int) by omega)
        have H2 := xHc (e := .var 1049024) (lo := 0) (hi := 0) H1 (show (0 : Int) ≤ r 1049024 by omega) (show r 1049024 ≤ (0 : Int) by omega)
        have H3 := xHc (e := .pow (.sub (.num 4194310) (.var 1048960)) 0) (lo := 3) (hi := 3) H2 (show (3 : Int) ≤ r (4194310 + 64 * (r 1048960).toNat) by omega) (show r (4194310 + 64 * (r 1048960).toNat) ≤ (3 : Int) by omega)
        have H4 := xHc (e := .var 4195586) (lo := 0) (hi := 0) H3 (show (0 : Int) ≤ r 4195586 by omega) (show r 4195586 ≤ (0 : Int) by omega)
        refine yz_run hL yq48_V3s3 hr H4 (xcut_s fun c hc r2 G2 hR => ?_)
        have hr2 : yzr L xs r2 := fun i hi => by rw [hR.2.2.2 i hi]; exact hr i hi
        have aw : r2 128 = w := (hR.2.2.2 128 (by decide)).trans m1
        simp only [List.mem_cons, List.not_mem_nil, or_false] at hc
        rcases hc with rfl | rfl | rfl
        · have a1048640 : r2 1048640 = (r 1048640 + (1 : Int)) := yas hR List.mem_cons_self
          have a1048704 : r2 1048704 = (r 1048704 + (1 : Int)) := yas hR (List.mem_cons_of_mem _ List.mem_cons_self)
          have a1049153 : r2 1049153 = r 1049153 := yas hR (List.mem_cons_of_mem _ (List.mem_cons_of_mem _ List.mem_cons_self))
          have fS : ∀ j : Nat, j < 16 → r2 (4194310 + 64 * j) = (bif decide (r 1048960 = (j : Int)) then ((0, -1) : ycV) else (0, r (4194310 + 64 * j))).2 := fun j hj => hR.2.1 _ List.mem_cons_self (4194310, 16, 506) List.mem_cons_self rfl j hj
          have fD : ∀ j : Nat, j < 16 → r2 (4195394 + 64 * j) = (xct r (.branch 0 (.leaf (10, .num 4195394)) (.branch 0 (.leaf (10, .num 4195394)) (.branch 0 (.branch 0 (.branch 0 (.leaf (0, .add (.var 4195586) (.num 1))) (.leaf (10, .num 4195394))) (.leaf (10, .num 4195394))) (.leaf (10, .num 4195394))))) j).2 := fun j hj => hR.2.1 _ (List.mem_cons_of_mem _ List.mem_cons_self) (4195394, 16, 505) (List.mem_cons_of_mem _ List.mem_cons_self) rfl j hj
          have fD2 : ∀ s : Nat, s < 8 → s ≠ (S p).toNat → r2 (4195394 + 64 * s) = D s := fun s hs hn => ((fD s (by omega)).trans (yb48_d11 r s hs (by omega))).trans (m5 s hs)
          have t0 : (7 : Int) ≤ r 1048704 ∧ r 1048704 ≤ (7 : Int) := hR.2.2.1 _ List.mem_cons_self
          exact hE0 (yb48a_e hv (by omega)) r2 hr2 G2 (a1049153.trans hZ)
        · have a1048640 : r2 1048640 = (r 1048640 + (1 : Int)) := yas hR List.mem_cons_self
          have a1048704 : r2 1048704 = (r 1048704 + (1 : Int)) := yas hR (List.mem_cons_of_mem _ List.mem_cons_self)
          have a1049153 : r2 1049153 = r 1049153 := yas hR (List.mem_cons_of_mem _ (List.mem_cons_of_mem _ List.mem_cons_self))
          have fS : ∀ j : Nat, j < 16 → r2 (4194310 + 64 * j) = (bif decide (r 1048960 = (j : Int)) then ((0, -1) : ycV) else (0, r (4194310 + 64 * j))).2 := fun j hj => hR.2.1 _ List.mem_cons_self (4194310, 16, 506) List.mem_cons_self rfl j hj
          have fD : ∀ j : Nat, j < 16 → r2 (4195394 + 64 * j) = (xct r (.branch 0 (.leaf (10, .num 4195394)) (.branch 0 (.leaf (10, .num 4195394)) (.branch 0 (.branch 0 (.branch 0 (.leaf (0, .add (.var 4195586) (.num 1))) (.leaf (10, .num 4195394))) (.leaf (10, .num 4195394))) (.leaf (10, .num 4195394))))) j).2 := fun j hj => hR.2.1 _ (List.mem_cons_of_mem _ List.mem_cons_self) (4195394, 16, 505) (List.mem_cons_of_mem _ List.mem_cons_self) rfl j hj
          have fD2 : ∀ s : Nat, s < 8 → s ≠ (S p).toNat → r2 (4195394 + 64 * s) = D s := fun s hs hn => ((fD s (by omega)).trans (yb48_d11 r s hs (by omega))).trans (m5 s hs)
          have t1 : (0 : Int) ≤ r 1048704 ∧ r 1048704 ≤ (6 : Int) := hR.2.2.1 _ (List.mem_cons_of_mem _ List.mem_cons_self)
          have hv2 := yb48a_n hv (by omega) (by decide)
          have t0 : (19999 : Int) ≤ r 1048640 ∧ r 1048640 ≤ (19999 : Int) := hR.2.2.1 _ List.mem_cons_self
          have hn : n = 0 := by omega
          subst hn
          exact hE3 (yb48_0 hv2) r2 hr2 G2 (a1049153.trans hZ)
        · have a1048577 : r2 1048577 = r 1048577 := yas hR List.mem_cons_self
          have a1048640 : r2 1048640 = (r 1048640 + (1 : Int)) := yas hR (List.mem_cons_of_mem _ List.mem_cons_self)
          have a1048704 : r2 1048704 = (r 1048704 + (1 : Int)) := yas hR (List.mem_cons_of_mem _ (List.mem_cons_of_mem _ List.mem_cons_self))
          have a1049153 : r2 1049153 = r 1049153 := yas hR (List.mem_cons_of_mem _ (List.mem_cons_of_mem _ (List.mem_cons_of_mem _ List.mem_cons_self)))
          have fS : ∀ j : Nat, j < 16 → r2 (4194310 + 64 * j) = (bif decide (r 1048960 = (j : Int)) then ((0, -1) : ycV) else (0, r (4194310 + 64 * j))).2 := fun j hj => hR.2.1 _ List.mem_cons_self (4194310, 16, 506) List.mem_cons_self rfl j hj
          have fD : ∀ j : Nat, j < 16 → r2 (4195394 + 64 * j) = (xct r (.branch 0 (.leaf (10, .num 4195394)) (.branch 0 (.leaf (10, .num 4195394)) (.branch 0 (.branch 0 (.branch 0 (.leaf (0, .add (.var 4195586) (.num 1))) (.leaf (10, .num 4195394))) (.leaf (10, .num 4195394))) (.leaf (10, .num 4195394))))) j).2 := fun j hj => hR.2.1 _ (List.mem_cons_of_mem _ List.mem_cons_self) (4195394, 16, 505) (List.mem_cons_of_mem _ List.mem_cons_self) rfl j hj
          have fD2 : ∀ s : Nat, s < 8 → s ≠ (S p).toNat → r2 (4195394 + 64 * s) = D s := fun s hs hn => ((fD s (by omega)).trans (yb48_d11 r s hs (by omega))).trans (m5 s hs)
          have t1 : (0 : Int) ≤ r 1048704 ∧ r 1048704 ≤ (6 : Int) := hR.2.2.1 _ (List.mem_cons_of_mem _ List.mem_cons_self)
          have hv2 := yb48a_n hv (by omega) (by decide)
          exact hC r2 w x (f + 1) (yb48u S p (-1)) (fun s => r2 (4195394 + 64 * s)) hr2 G2 (a1049153.trans hZ) ⟨aw, a1048577.trans m2, by omega, fun k hk => yb48_fu (fS k (by omega)) hup rfl (m4 k hk), fun _ _ => rfl, yb48J_step m6 hp (by omega) fD2 (by decide)⟩ (by omega) hv2
      · have hv := yb48w_s hy (by omega)
        have ed : r 4195650 = 0 := (m5 4 (by decide)).trans (by
          have z := m6.2.2.1 p hp (by omega)
          rw [e] at z
          exact z)
        have H1 := xHc (e := .sub (.var 128) (.var 1048960)) (lo := 1) (hi := 16) H (show (1 : Int) ≤ (r 128 - r 1048960) by omega) (show (r 128 - r 1048960) ≤ (16 : Int) by omega)
        have H2 := xHc (e := .var 1049024) (lo := 0) (hi := 0) H1 (show (0 : Int) ≤ r 1049024 by omega) (show r 1049024 ≤ (0 : Int) by omega)
        have H3 := xHc (e := .pow (.sub (.num 4194310) (.var 1048960)) 0) (lo := 4) (hi := 4) H2 (show (4 : Int) ≤ r (4194310 + 64 * (r 1048960).toNat) by omega) (show r (4194310 + 64 * (r 1048960).toNat) ≤ (4 : Int) by omega)
        have H4 := xHc (e := .var 4195650) (lo := 0) (hi := 0) H3 (show (0 : Int) ≤ r 4195650 by omega) (show r 4195650 ≤ (0 : Int) by omega)
        refine yz_run hL yq48_V3s4 hr H4 (xcut_s fun c hc r2 G2 hR => ?_)
        have hr2 : yzr L xs r2 := fun i hi => by rw [hR.2.2.2 i hi]; exact hr i hi
        have aw : r2 128 = w := (hR.2.2.2 128 (by decide)).trans m1
        simp only [List.mem_cons, List.not_mem_nil, or_false] at hc
        rcases hc with rfl | rfl | rfl
        · have a1048640 : r2 1048640 = (r 1048640 + (1 : Int)) := yas hR List.mem_cons_self
          have a1048704 : r2 1048704 = (r 1048704 + (1 : Int)) := yas hR (List.mem_cons_of_mem _ List.mem_cons_self)
          have a1049153 : r2 1049153 = r 1049153 := yas hR (List.mem_cons_of_mem _ (List.mem_cons_of_mem _ List.mem_cons_self))
          have fS : ∀ j : Nat, j < 16 → r2 (4194310 + 64 * j) = (bif decide (r 1048960 = (j : Int)) then ((0, -1) : ycV) else (0, r (4194310 + 64 * j))).2 := fun j hj => hR.2.1 _ List.mem_cons_self (4194310, 16, 506) List.mem_cons_self rfl j hj
          have fD : ∀ j : Nat, j < 16 → r2 (4195394 + 64 * j) = (xct r (.branch 0 (.branch 0 (.branch 0 (.leaf (10, .num 4195394)) (.branch 0 (.branch 0 (.leaf (0, .add (.var 4195650) (.num 1))) (.leaf (10, .num 4195394))) (.leaf (10, .num 4195394)))) (.leaf (10, .num 4195394))) (.leaf (10, .num 4195394))) j).2 := fun j hj => hR.2.1 _ (List.mem_cons_of_mem _ List.mem_cons_self) (4195394, 16, 505) (List.mem_cons_of_mem _ List.mem_cons_self) rfl j hj
          have fD2 : ∀ s : Nat, s < 8 → s ≠ (S p).toNat → r2 (4195394 + 64 * s) = D s := fun s hs hn => ((fD s (by omega)).trans (yb48_d12 r s hs (by omega))).trans (m5 s hs)
          have t0 : (7 : Int) ≤ r 1048704 ∧ r 1048704 ≤ (7 : Int) := hR.2.2.1 _ List.mem_cons_self
          exact hE0 (yb48a_e hv (by omega)) r2 hr2 G2 (a1049153.trans hZ)
        · have a1048640 : r2 1048640 = (r 1048640 + (1 : Int)) := yas hR List.mem_cons_self
          have a1048704 : r2 1048704 = (r 1048704 + (1 : Int)) := yas hR (List.mem_cons_of_mem _ List.mem_cons_self)
          have a1049153 : r2 1049153 = r 1049153 := yas hR (List.mem_cons_of_mem _ (List.mem_cons_of_mem _ List.mem_cons_self))
          have fS : ∀ j : Nat, j < 16 → r2 (4194310 + 64 * j) = (bif decide (r 1048960 = (j : Int)) then ((0, -1) : ycV) else (0, r (4194310 + 64 * j))).2 := fun j hj => hR.2.1 _ List.mem_cons_self (4194310, 16, 506) List.mem_cons_self rfl j hj
          have fD : ∀ j : Nat, j < 16 → r2 (4195394 + 64 * j) = (xct r (.branch 0 (.branch 0 (.branch 0 (.leaf (10, .num 4195394)) (.branch 0 (.branch 0 (.leaf (0, .add (.var 4195650) (.num 1))) (.leaf (10, .num 4195394))) (.leaf (10, .num 4195394)))) (.leaf (10, .num 4195394))) (.leaf (10, .num 4195394))) j).2 := fun j hj => hR.2.1 _ (List.mem_cons_of_mem _ List.mem_cons_self) (4195394, 16, 505) (List.mem_cons_of_mem _ List.mem_cons_self) rfl j hj
          have fD2 : ∀ s : Nat, s < 8 → s ≠ (S p).toNat → r2 (4195394 + 64 * s) = D s := fun s hs hn => ((fD s (by omega)).trans (yb48_d12 r s hs (by omega))).trans (m5 s hs)
          have t1 : (0 : Int) ≤ r 1048704 ∧ r 1048704 ≤ (6 : Int) := hR.2.2.1 _ (List.mem_cons_of_mem _ List.mem_cons_self)
          have hv2 := yb48a_n hv (by omega) (by decide)
          have t0 : (19999 : Int) ≤ r 1048640 ∧ r 1048640 ≤ (19999 : Int) := hR.2.2.1 _ List.mem_cons_self
          have hn : n = 0 := by omega
          subst hn
          exact hE3 (yb48_0 hv2) r2 hr2 G2 (a1049153.trans hZ)
        · have a1048577 : r2 1048577 = r 1048577 := yas hR List.mem_cons_self
          have a1048640 : r2 1048640 = (r 1048640 + (1 : Int)) := yas hR (List.mem_cons_of_mem _ List.mem_cons_self)
          have a1048704 : r2 1048704 = (r 1048704 + (1 : Int)) := yas hR (List.mem_cons_of_mem _ (List.mem_cons_of_mem _ List.mem_cons_self))
          have a1049153 : r2 1049153 = r 1049153 := yas hR (List.mem_cons_of_mem _ (List.mem_cons_of_mem _ (List.mem_cons_of_mem _ List.mem_cons_self)))
          have fS : ∀ j : Nat, j < 16 → r2 (4194310 + 64 * j) = (bif decide (r 1048960 = (j : Int)) then ((0, -1) : ycV) else (0, r (4194310 + 64 * j))).2 := fun j hj => hR.2.1 _ List.mem_cons_self (4194310, 16, 506) List.mem_cons_self rfl j hj
          have fD : ∀ j : Nat, j < 16 → r2 (4195394 + 64 * j) = (xct r (.branch 0 (.branch 0 (.branch 0 (.leaf (10, .num 4195394)) (.branch 0 (.branch 0 (.leaf (0, .add (.var 4195650) (.num 1))) (.leaf (10, .num 4195394))) (.leaf (10, .num 4195394)))) (.leaf (10, .num 4195394))) (.leaf (10, .num 4195394))) j).2 := fun j hj => hR.2.1 _ (List.mem_cons_of_mem _ List.mem_cons_self) (4195394, 16, 505) (List.mem_cons_of_mem _ List.mem_cons_self) rfl j hj
          have fD2 : ∀ s : Nat, s < 8 → s ≠ (S p).toNat → r2 (4195394 + 64 * s) = D s := fun s hs hn => ((fD s (by omega)).trans (yb48_d12 r s hs (by omega))).trans (m5 s hs)
          have t1 : (0 : Int) ≤ r 1048704 ∧ r 1048704 ≤ (6 : Int) := hR.2.2.1 _ (List.mem_cons_of_mem _ List.mem_cons_self)
          have hv2 := yb48a_n hv (by omega) (by decide)
          exact hC r2 w x (f + 1) (yb48u S p (-1)) (fun s => r2 (4195394 + 64 * s)) hr2 G2 (a1049153.trans hZ) ⟨aw, a1048577.trans m2, by omega, fun k hk => yb48_fu (fS k (by omega)) hup rfl (m4 k hk), fun _ _ => rfl, yb48J_step m6 hp (by omega) fD2 (by decide)⟩ (by omega) hv2
    · have H1 := xHc (e := .sub (.var 128) (.var 1048960)) (lo := 2) (hi := 16) H (show (2 : Int) ≤ (r 128 - r 1048960) by omega) (show (r 128 - r 1048960) ≤ (16 : Int) by omega)
      have H2 := xHc (e := .var 1049024) (lo := 1) (hi := 15) H1 (show (1 : Int) ≤ r 1049024 by omega) (show r 1049024 ≤ (15 : Int) by omega)
      refine yz_run hL yq48_V3n hr H2 (xcut_s fun c hc r2 G2 hR => ?_)
      have hr2 : yzr L xs r2 := fun i hi => by rw [hR.2.2.2 i hi]; exact hr i hi
      have aw : r2 128 = w := (hR.2.2.2 128 (by decide)).trans m1
      rw [List.mem_singleton] at hc
      subst hc
      have a1048577 : r2 1048577 = r 1048577 := yas hR List.mem_cons_self
      have a1049024 : r2 1049024 = (r 1049024 + (-1 : Int)) := yas hR (List.mem_cons_of_mem _ List.mem_cons_self)
      have a1048960 : r2 1048960 = (r 1048960 + (1 : Int)) := yas hR (List.mem_cons_of_mem _ (List.mem_cons_of_mem _ List.mem_cons_self))
      have a1048640 : r2 1048640 = r 1048640 := yas hR (List.mem_cons_of_mem _ (List.mem_cons_of_mem _ (List.mem_cons_of_mem _ List.mem_cons_self)))
      have a1048704 : r2 1048704 = r 1048704 := yas hR (List.mem_cons_of_mem _ (List.mem_cons_of_mem _ (List.mem_cons_of_mem _ (List.mem_cons_of_mem _ List.mem_cons_self))))
      have a1049153 : r2 1049153 = r 1049153 := yas hR (List.mem_cons_of_mem _ (List.mem_cons_of_mem _ (List.mem_cons_of_mem _ (List.mem_cons_of_mem _ (List.mem_cons_of_mem _ List.mem_cons_self)))))
      have fS : ∀ j : Nat, j < 16 → r2 (4194310 + 64 * j) = r (4194310 + 64 * j) := fun j hj => hR.2.1 _ List.mem_cons_self (4194310, 16, 506) List.mem_cons_self rfl j hj
      have fD : ∀ j : Nat, j < 16 → r2 (4195394 + 64 * j) = r (4195394 + 64 * j) := fun j hj => hR.2.1 _ (List.mem_cons_of_mem _ List.mem_cons_self) (4195394, 16, 505) (List.mem_cons_of_mem _ List.mem_cons_self) rfl j hj
      exact ih r2 hr2 G2 (a1049153.trans hZ) ⟨aw, a1048577.trans m2, a1048704.trans m3, fun k hk => (fS k (by omega)).trans (m4 k hk), fun s hs => (fD s (by omega)).trans (m5 s hs), m6⟩ (by omega) (by omega) (by omega)
theorem y48_R4 {L : Nat} {xs : Nat → Int32} (hL : L ≤ 3584) {y0 : Int} {n : Nat} (hW : yb48V L xs (yZ1 y0) y0 yt48_V4 yF48_V4 n 4) : yb48C L xs (yZ1 y0) y0 yt48_R4 yF48_R4 (n + 1) 4 := by
  intro r w x f S D hr H hZ hM hT hy
  obtain ⟨m1, m2, m3, m4, m5, m6⟩ := hM
  have hw : 1 ≤ r 128 ∧ r 128 ≤ 16 := xbd_s H (e := .var 128) (lo := 1) (hi := 16) (by decide +kernel)
  have hw2 : 1 ≤ w ∧ w ≤ 16 := by omega
  have H1 := xHc (e := .sub (.var 128) (.pow (.add (.pow (.add (.pow (.add (.pow (.add (.var 1048577) (.num 6364136223846793005)) 38) (.num 1442695040888963407)) 36) (.num 33)) 51) (.var 128)) 40)) (lo := 1) (hi := 16) H (by rw [xden_sub, xden_var, yb48P_d, m1, m2]; exact (yb48_w1 (yb48P_r hw2.1 hw2.2) hw2.2).1) (by rw [xden_sub, xden_var, yb48P_d, m1, m2]; exact (yb48_w1 (yb48P_r hw2.1 hw2.2) hw2.2).2)
  refine yz_run hL yq48_R4 hr H1 (xcut_s fun c hc r2 G2 hR => ?_)
  have hr2 : yzr L xs r2 := fun i hi => by rw [hR.2.2.2 i hi]; exact hr i hi
  have aw : r2 128 = w := (hR.2.2.2 128 (by decide)).trans m1
  rw [List.mem_singleton] at hc
  subst hc
  have a1048960 : r2 1048960 = (0 : Int) := yas hR (List.mem_cons_of_mem _ (List.mem_cons_of_mem _ List.mem_cons_self))
  have a1048640 : r2 1048640 = r 1048640 := yas hR (List.mem_cons_of_mem _ (List.mem_cons_of_mem _ (List.mem_cons_of_mem _ List.mem_cons_self)))
  have a1048704 : r2 1048704 = r 1048704 := yas hR (List.mem_cons_of_mem _ (List.mem_cons_of_mem _ (List.mem_cons_of_mem _ (List.mem_cons_of_mem _ List.mem_cons_self))))
  have a1049153 : r2 1049153 = r 1049153 := yas hR (List.mem_cons_of_mem _ (List.mem_cons_of_mem _ (List.mem_cons_of_mem _ (List.mem_cons_of_mem _ (List.mem_cons_of_mem _ List.mem_cons_self)))))
  have fS : ∀ j : Nat, j < 16 → r2 (4194310 + 64 * j) = r (4194310 + 64 * j) := fun j hj => hR.2.1 _ List.mem_cons_self (4194310, 16, 506) List.mem_cons_self rfl j hj
  have fD : ∀ j : Nat, j < 16 → r2 (4195394 + 64 * j) = r (4195394 + 64 * j) := fun j hj => hR.2.1 _ (List.mem_cons_of_mem _ List.mem_cons_self) (4195394, 16, 505) (List.mem_cons_of_mem _ List.mem_cons_self) rfl j hj
  have o1 := hT
  have gS : ∀ k : Nat, (k : Int) < w → r2 (4194310 + 64 * k) = S k := fun k hk => (fS k (by omega)).trans (m4 k hk)
  have gD : ∀ s : Nat, s < 8 → r2 (4195394 + 64 * s) = D s := fun s hs => (fD s (by omega)).trans (m5 s hs)
  have gT : r2 1048640 + (n : Int) + 1 = 20000 := by omega
  have a1048577 : r2 1048577 = yb48X (r 1048577) := (yas hR List.mem_cons_self).trans (yb48X_d r)
  have a1049024 : r2 1049024 = yb48P (r 128) (r 1048577) := (yas hR (List.mem_cons_of_mem _ List.mem_cons_self)).trans (yb48P_d r)
  exact hW r2 w (yb48X x) f S D (yb48P w x).toNat hr2 G2 (a1049153.trans hZ) ⟨aw, by rw [a1048577, m2], a1048704.trans m3, gS, gD, m6⟩ gT (yb48_w2 (yb48P_r hw2.1 hw2.2)) (by rw [a1049024, a1048960, m1, m2]; exact yb48_w4 (yb48P_r hw2.1 hw2.2)) (yb48_t hy)
theorem y48_V4 {L : Nat} {xs : Nat → Int32} (hL : L ≤ 3584) {y0 : Int} {n : Nat} (hC : yb48C L xs (yZ1 y0) y0 yt48_R4 yF48_R4 n 4) (hC1 : yb48C L xs (yZ1 y0) y0 yt48_R3 yF48_R3 n 3) (hE0 : yb48E L xs (yZ1 y0) y0 (0) yt48_X0 yF48_X0) (hE3 : yb48E L xs (yZ1 y0) y0 (-3) yt48_X3 yF48_X3) : yb48V L xs (yZ1 y0) y0 yt48_V4 yF48_V4 n 4 := by
  intro r w x f S D p hr H hZ hM hT hp hP hy
  suffices main : ∀ d : Nat, ∀ r, yzr L xs r → xH r yF48_V4 → (yZ1 y0) r → yb48M r w 4 x f S D → r 1048640 + (n : Int) + 1 = 20000 → r 1049024 + r 1048960 = (p : Int) → r 1049024 < (d : Int) → xGl (yfT (ykold L xs)) r yzP yt48_V4 from
    main 16 r hr H hZ hM hT hP (by
      have hPb : 0 ≤ r 1049024 ∧ r 1049024 ≤ 15 := xbd_s H (e := .var 1049024) (lo := 0) (hi := 15) (by decide +kernel)
      omega)
  intro d
  induction d with
  | zero =>
    intro r hr H hZ hM hT hP hd
    have hPb : 0 ≤ r 1049024 ∧ r 1049024 ≤ 15 := xbd_s H (e := .var 1049024) (lo := 0) (hi := 15) (by decide +kernel)
    omega
  | succ d ih =>
    intro r hr H hZ hM hT hP hd
    have hPb : 0 ≤ r 1049024 ∧ r 1049024 ≤ 15 := xbd_s H (e := .var 1049024) (lo := 0) (hi := 15) (by decide +kernel)
    obtain ⟨m1, m2, m3, m4, m5, m6⟩ := hM
    have hw : 1 ≤ r 128 ∧ r 128 ≤ 16 := xbd_s H (e := .var 128) (lo := 1) (hi := 16) (by decide +kernel)
    have hu : 0 ≤ r 1048960 ∧ r 1048960 ≤ 15 := xbd_s H (e := .var 1048960) (lo := 0) (hi := 15) (by decide +kernel)
    have hf : 0 ≤ r 1048704 ∧ r 1048704 ≤ 7 := xbd_s H (e := .var 1048704) (lo := 0) (hi := 7) (by decide +kernel)
    by_cases hup0 : r 1049024 = 0
    · have hup : r 1048960 = (p : Int) := by omega
      have es : r (4194310 + 64 * (r 1048960).toNat) = S p := by
        have e0 : (r 1048960).toNat = p := by omega
        rw [e0]
        exact m4 p hp
      have j1 := m6.1 p hp
      have e : S p = -1 ∨ S p = 0 ∨ S p = 1 ∨ S p = 2 ∨ S p = 3 := by omega
      rcases e with e | e | e | e | e
      · have hv := yb48w_t (q := 3) hy e
        have hv2 := yb48a_n hv (by omega) (by decide)
        have H1 := xHc (e := .sub (.var 128) (.var 1048960)) (lo := 1) (hi := 16) H (show (1 : Int) ≤ (r 128 - r 1048960) by omega) (show (r 128 - r 1048960) ≤ (16 : Int) by omega)
        have H2 := xHc (e := .var 1049024) (lo := 0) (hi := 0) H1 (show (0 : Int) ≤ r 1049024 by omega) (show r 1049024 ≤ (0 : Int) by omega)
        have H3 := xHc (e := .pow (.sub (.num 4194310) (.var 1048960)) 0) (lo := -1) (hi := -1) H2 (show (-1 : Int) ≤ r (4194310 + 64 * (r 1048960).toNat) by omega) (show r (4194310 + 64 * (r 1048960).toNat) ≤ (-1 : Int) by omega)
        refine yz_run hL yq48_V4t hr H3 (xcut_s fun c hc r2 G2 hR => ?_)
        have hr2 : yzr L xs r2 := fun i hi => by rw [hR.2.2.2 i hi]; exact hr i hi
        have aw : r2 128 = w := (hR.2.2.2 128 (by decide)).trans m1
        simp only [List.mem_cons, List.not_mem_nil, or_false] at hc
        rcases hc with rfl | rfl
        · have a1048640 : r2 1048640 = (r 1048640 + (1 : Int)) := yas hR List.mem_cons_self
          have a1048704 : r2 1048704 = r 1048704 := yas hR (List.mem_cons_of_mem _ List.mem_cons_self)
          have a1049153 : r2 1049153 = r 1049153 := yas hR (List.mem_cons_of_mem _ (List.mem_cons_of_mem _ List.mem_cons_self))
          have fS : ∀ j : Nat, j < 16 → r2 (4194310 + 64 * j) = (bif decide (r 1048960 = (j : Int)) then ((0, 4) : ycV) else (0, r (4194310 + 64 * j))).2 := fun j hj => hR.2.1 _ List.mem_cons_self (4194310, 16, 506) List.mem_cons_self rfl j hj
          have fD : ∀ j : Nat, j < 16 → r2 (4195394 + 64 * j) = r (4195394 + 64 * j) := fun j hj => hR.2.1 _ (List.mem_cons_of_mem _ List.mem_cons_self) (4195394, 16, 505) (List.mem_cons_of_mem _ List.mem_cons_self) rfl j hj
          have t0 : (19999 : Int) ≤ r 1048640 ∧ r 1048640 ≤ (19999 : Int) := hR.2.2.1 _ List.mem_cons_self
          have hn : n = 0 := by omega
          subst hn
          exact hE3 (yb48_0 hv2) r2 hr2 G2 (a1049153.trans hZ)
        · have a1048577 : r2 1048577 = r 1048577 := yas hR List.mem_cons_self
          have a1048640 : r2 1048640 = (r 1048640 + (1 : Int)) := yas hR (List.mem_cons_of_mem _ List.mem_cons_self)
          have a1048704 : r2 1048704 = r 1048704 := yas hR (List.mem_cons_of_mem _ (List.mem_cons_of_mem _ List.mem_cons_self))
          have a1049153 : r2 1049153 = r 1049153 := yas hR (List.mem_cons_of_mem _ (List.mem_cons_of_mem _ (List.mem_cons_of_mem _ List.mem_cons_self)))
          have fS : ∀ j : Nat, j < 16 → r2 (4194310 + 64 * j) = (bif decide (r 1048960 = (j : Int)) then ((0, 4) : ycV) else (0, r (4194310 + 64 * j))).2 := fun j hj => hR.2.1 _ List.mem_cons_self (4194310, 16, 506) List.mem_cons_self rfl j hj
          have fD : ∀ j : Nat, j < 16 → r2 (4195394 + 64 * j) = r (4195394 + 64 * j) := fun j hj => hR.2.1 _ (List.mem_cons_of_mem _ List.mem_cons_self) (4195394, 16, 505) (List.mem_cons_of_mem _ List.mem_cons_self) rfl j hj
          exact hC1 r2 w x f (yb48u S p (8 - ((3 + 1 : Nat) : Int))) D hr2 G2 (a1049153.trans hZ) ⟨aw, a1048577.trans m2, a1048704.trans m3, fun k hk => yb48_fu (fS k (by omega)) hup (by decide) (m4 k hk), fun s hs => (fD s (by omega)).trans (m5 s hs), yb48J_take m6 hp (by decide)⟩ (by omega) hv2
      · have hv := yb48w_s hy (by omega)
        have ed : r 4195394 = 0 := (m5 0 (by decide)).trans (by
          have z := m6.2.2.1 p hp (by omega)
          rw [e] at z
          exact z)
        have H1 := xHc (e := .sub (.var 128) (.var 1048960)) (lo := 1) (hi := 16) H (show (1 : Int) ≤ (r 128 - r 1048960) by omega) (show (r 128 - r 1048960) ≤ (16 : Int) by omega)
        have H2 := xHc (e := .var 1049024) (lo := 0) (hi := 0) H1 (show (0 : Int) ≤ r 1049024 by omega) (show r 1049024 ≤ (0 : Int) by omega)
        have H3 := xHc (e := .pow (.sub (.num 4194310) (.var 1048960)) 0) (lo := 0) (hi := 0) H2 (show (0 : Int) ≤ r (4194310 + 64 * (r 1048960).toNat) by omega) (show r (4194310 + 64 * (r 1048960).toNat) ≤ (0 : Int) by omega)
        have H4 := xHc (e := .var 4195394) (lo := 0) (hi := 0) H3 (show (0 : Int) ≤ r 4195394 by omega) (show r 4195394 ≤ (0 : Int) by omega)
        refine yz_run hL yq48_V4s0 hr H4 (xcut_s fun c hc r2 G2 hR => ?_)
        have hr2 : yzr L xs r2 := fun i hi => by rw [hR.2.2.2 i hi]; exact hr i hi
        have aw : r2 128 = w := (hR.2.2.2 128 (by decide)).trans m1
        simp only [List.mem_cons, List.not_mem_nil, or_false] at hc
        rcases hc with rfl | rfl | rfl
        · have a1048640 : r2 1048640 = (r 1048640 + (1 : Int)) := yas hR List.mem_cons_self
          have a1048704 : r2 1048704 = (r 1048704 + (1 : Int)) := yas hR (List.mem_cons_of_mem _ List.mem_cons_self)
          have a1049153 : r2 1049153 = r 1049153 := yas hR (List.mem_cons_of_mem _ (List.mem_cons_of_mem _ List.mem_cons_self))
          have fS : ∀ j : Nat, j < 16 → r2 (4194310 + 64 * j) = (bif decide (r 1048960 = (j : Int)) then ((0, -1) : ycV) else (0, r (4194310 + 64 * j))).2 := fun j hj => hR.2.1 _ List.mem_cons_self (4194310, 16, 506) List.mem_cons_self rfl j hj
          have fD : ∀ j : Nat, j < 16 → r2 (4195394 + 64 * j) = (xct r (.branch 0 (.branch 0 (.branch 0 (.branch 0 (.branch 0 (.leaf (0, .add (.var 4195394) (.num 1))) (.leaf (10, .num 4195394))) (.leaf (10, .num 4195394))) (.leaf (10, .num 4195394))) (.leaf (10, .num 4195394))) (.leaf (10, .num 4195394))) j).2 := fun j hj => hR.2.1 _ (List.mem_cons_of_mem _ List.mem_cons_self) (4195394, 16, 505) (List.mem_cons_of_mem _ List.mem_cons_self) rfl j hj
          have fD2 : ∀ s : Nat, s < 8 → s ≠ (S p).toNat → r2 (4195394 + 64 * s) = D s := fun s hs hn => ((fD s (by omega)).trans (yb48_d8 r s hs (by omega))).trans (m5 s hs)
          have t0 : (7 : Int) ≤ r 1048704 ∧ r 1048704 ≤ (7 : Int) := hR.2.2.1 _ List.mem_cons_self
          exact hE0 (yb48a_e hv (by omega)) r2 hr2 G2 (a1049153.trans hZ)
        · have a1048640 : r2 1048640 = (r 1048640 + (1 : Int)) := yas hR List.mem_cons_self
          have a1048704 : r2 1048704 = (r 1048704 + (1 : Int)) := yas hR (List.mem_cons_of_mem _ List.mem_cons_self)
          have a1049153 : r2 1049153 = r 1049153 := yas hR (List.mem_cons_of_mem _ (List.mem_cons_of_mem _ List.mem_cons_self))
          have fS : ∀ j : Nat, j < 16 → r2 (4194310 + 64 * j) = (bif decide (r 1048960 = (j : Int)) then ((0, -1) : ycV) else (0, r (4194310 + 64 * j))).2 := fun j hj => hR.2.1 _ List.mem_cons_self (4194310, 16, 506) List.mem_cons_self rfl j hj
          have fD : ∀ j : Nat, j < 16 → r2 (4195394 + 64 * j) = (xct r (.branch 0 (.branch 0 (.branch 0 (.branch 0 (.branch 0 (.leaf (0, .add (.var 4195394) (.num 1))) (.leaf (10, .num 4195394))) (.leaf (10, .num 4195394))) (.leaf (10, .num 4195394))) (.leaf (10, .num 4195394))) (.leaf (10, .num 4195394))) j).2 := fun j hj => hR.2.1 _ (List.mem_cons_of_mem _ List.mem_cons_self) (4195394, 16, 505) (List.mem_cons_of_mem _ List.mem_cons_self) rfl j hj
          have fD2 : ∀ s : Nat, s < 8 → s ≠ (S p).toNat → r2 (4195394 + 64 * s) = D s := fun s hs hn => ((fD s (by omega)).trans (yb48_d8 r s hs (by omega))).trans (m5 s hs)
          have t1 : (0 : Int) ≤ r 1048704 ∧ r 1048704 ≤ (6 : Int) := hR.2.2.1 _ (List.mem_cons_of_mem _ List.mem_cons_self)
          have hv2 := yb48a_n hv (by omega) (by decide)
          have t0 : (19999 : Int) ≤ r 1048640 ∧ r 1048640 ≤ (19999 : Int) := hR.2.2.1 _ List.mem_cons_self
          have hn : n = 0 := by omega
          subst hn
          exact hE3 (yb48_0 hv2) r2 hr2 G2 (a1049153.trans hZ)
        · have a1048577 : r2 1048577 = r 1048577 := yas hR List.mem_cons_self
          have a1048640 : r2 1048640 = (r 1048640 + (1 : Int)) := yas hR (List.mem_cons_of_mem _ List.mem_cons_self)
          have a1048704 : r2 1048704 = (r 1048704 + (1 : Int)) := yas hR (List.mem_cons_of_mem _ (List.mem_cons_of_mem _ List.mem_cons_self))
          have a1049153 : r2 1049153 = r 1049153 := yas hR (List.mem_cons_of_mem _ (List.mem_cons_of_mem _ (List.mem_cons_of_mem _ List.mem_cons_self)))
          have fS : ∀ j : Nat, j < 16 → r2 (4194310 + 64 * j) = (bif decide (r 1048960 = (j : Int)) then ((0, -1) : ycV) else (0, r (4194310 + 64 * j))).2 := fun j hj => hR.2.1 _ List.mem_cons_self (4194310, 16, 506) List.mem_cons_self rfl j hj
          have fD : ∀ j : Nat, j < 16 → r2 (4195394 + 64 * j) = (xct r (.branch 0 (.branch 0 (.branch 0 (.branch 0 (.branch 0 (.leaf (0, .add (.var 4195394) (.num 1))) (.leaf (10, .num 4195394))) (.leaf (10, .num 4195394))) (.leaf (10, .num 4195394))) (.leaf (10, .num 4195394))) (.leaf (10, .num 4195394))) j).2 := fun j hj => hR.2.1 _ (List.mem_cons_of_mem _ List.mem_cons_self) (4195394, 16, 505) (List.mem_cons_of_mem _ List.mem_cons_self) rfl j hj
          have fD2 : ∀ s : Nat, s < 8 → s ≠ (S p).toNat → r2 (4195394 + 64 * s) = D s := fun s hs hn => ((fD s (by omega)).trans (yb48_d8 r s hs (by omega))).trans (m5 s hs)
          have t1 : (0 : Int) ≤ r 1048704 ∧ r 1048704 ≤ (6 : Int) := hR.2.2.1 _ (List.mem_cons_of_mem _ List.mem_cons_self)
          have hv2 := yb48a_n hv (by omega) (by decide)
          exact hC r2 w x (f + 1) (yb48u S p (-1)) (fun s => r2 (4195394 + 64 * s)) hr2 G2 (a1049153.trans hZ) ⟨aw, a1048577.trans m2, by omega, fun k hk => yb48_fu (fS k (by omega)) hup rfl (m4 k hk), fun _ _ => rfl, yb48J_step m6 hp (by omega) fD2 (by decide)⟩ (by omega) hv2
      · have hv := yb48w_s hy (by omega)
        have ed : r 4195458 = 0 := (m5 1 (by decide)).trans (by
          have z := m6.2.2.1 p hp (by omega)
          rw [e] at z
          exact z)
        have H1 := xHc (e := .sub (.var 128) (.var 1048960)) (lo := 1) (hi := 16) H (show (1 : Int) ≤ (r 128 - r 1048960) by omega) (show (r 128 - r 1048960) ≤ (16 : Int) by omega)
        have H2 := xHc (e := .var 1049024) (lo := 0) (hi := 0) H1 (show (0 : Int) ≤ r 1049024 by omega) (show r 1049024 ≤ (0 : Int) by omega)
        have H3 := xHc (e := .pow (.sub (.num 4194310) (.var 1048960)) 0) (lo := 1) (hi := 1) H2 (show (1 : Int) ≤ r (4194310 + 64 * (r 1048960).toNat) by omega) (show r (4194310 + 64 * (r 1048960).toNat) ≤ (1 : Int) by omega)
        have H4 := xHc (e := .var 4195458) (lo := 0) (hi := 0) H3 (show (0 : Int) ≤ r 4195458 by omega) (show r 4195458 ≤ (0 : Int) by omega)
        refine yz_run hL yq48_V4s1 hr H4 (xcut_s fun c hc r2 G2 hR => ?_)
        have hr2 : yzr L xs r2 := fun i hi => by rw [hR.2.2.2 i hi]; exact hr i hi
        have aw : r2 128 = w := (hR.2.2.2 128 (by decide)).trans m1
        simp only [List.mem_cons, List.not_mem_nil, or_false] at hc
        rcases hc with rfl | rfl | rfl
        · have a1048640 : r2 1048640 = (r 1048640 + (1 : Int)) := yas hR List.mem_cons_self
          have a1048704 : r2 1048704 = (r 1048704 + (1 : Int)) := yas hR (List.mem_cons_of_mem _ List.mem_cons_self)
          have a1049153 : r2 1049153 = r 1049153 := yas hR (List.mem_cons_of_mem _ (List.mem_cons_of_mem _ List.mem_cons_self))
          have fS : ∀ j : Nat, j < 16 → r2 (4194310 + 64 * j) = (bif decide (r 1048960 = (j : Int)) then ((0, -1) : ycV) else (0, r (4194310 + 64 * j))).2 := fun j hj => hR.2.1 _ List.mem_cons_self (4194310, 16, 506) List.mem_cons_self rfl j hj
          have fD : ∀ j : Nat, j < 16 → r2 (4195394 + 64 * j) = (xct r (.branch 0 (.leaf (10, .num 4195394)) (.branch 0 (.branch 0 (.branch 0 (.branch 0 (.leaf (0, .add (.var 4195458) (.num 1))) (.leaf (10, .num 4195394))) (.leaf (10, .num 4195394))) (.leaf (10, .num 4195394))) (.leaf (10, .num 4195394)))) j).2 := fun j hj => hR.2.1 _ (List.mem_cons_of_mem _ List.mem_cons_self) (4195394, 16, 505) (List.mem_cons_of_mem _ List.mem_cons_self) rfl j hj
          have fD2 : ∀ s : Nat, s < 8 → s ≠ (S p).toNat → r2 (4195394 + 64 * s) = D s := fun s hs hn => ((fD s (by omega)).trans (yb48_d9 r s hs (by omega))).trans (m5 s hs)
          have t0 : (7 : Int) ≤ r 1048704 ∧ r 1048704 ≤ (7 : Int) := hR.2.2.1 _ List.mem_cons_self
          exact hE0 (yb48a_e hv (by omega)) r2 hr2 G2 (a1049153.trans hZ)
        · have a1048640 : r2 1048640 = (r 1048640 + (1 : Int)) := yas hR List.mem_cons_self
          have a1048704 : r2 1048704 = (r 1048704 + (1 : Int)) := yas hR (List.mem_cons_of_mem _ List.mem_cons_self)
          have a1049153 : r2 1049153 = r 1049153 := yas hR (List.mem_cons_of_mem _ (List.mem_cons_of_mem _ List.mem_cons_self))
          have fS : ∀ j : Nat, j < 16 → r2 (4194310 + 64 * j) = (bif decide (r 1048960 = (j : Int)) then ((0, -1) : ycV) else (0, r (4194310 + 64 * j))).2 := fun j hj => hR.2.1 _ List.mem_cons_self (4194310, 16, 506) List.mem_cons_self rfl j hj
          have fD : ∀ j : Nat, j < 16 → r2 (4195394 + 64 * j) = (xct r (.branch 0 (.leaf (10, .num 4195394)) (.branch 0 (.branch 0 (.branch 0 (.branch 0 (.leaf (0, .add (.var 4195458) (.num 1))) (.leaf (10, .num 4195394))) (.leaf (10, .num 4195394))) (.leaf (10, .num 4195394))) (.leaf (10, .num 4195394)))) j).2 := fun j hj => hR.2.1 _ (List.mem_cons_of_mem _ List.mem_cons_self) (4195394, 16, 505) (List.mem_cons_of_mem _ List.mem_cons_self) rfl j hj
          have fD2 : ∀ s : Nat, s < 8 → s ≠ (S p).toNat → r2 (4195394 + 64 * s) = D s := fun s hs hn => ((fD s (by omega)).trans (yb48_d9 r s hs (by omega))).trans (m5 s hs)
          have t1 : (0 : Int) ≤ r 1048704 ∧ r 1048704 ≤ (6 : Int) := hR.2.2.1 _ (List.mem_cons_of_mem _ List.mem_cons_self)
          have hv2 := yb48a_n hv (by omega) (by decide)
          have t0 : (19999 : Int) ≤ r 1048640 ∧ r 1048640 ≤ (19999 : Int) := hR.2.2.1 _ List.mem_cons_self
          have hn : n = 0 := by omega
          subst hn
          exact hE3 (yb48_0 hv2) r2 hr2 G2 (a1049153.trans hZ)
        · have a1048577 : r2 1048577 = r 1048577 := yas hR List.mem_cons_self
          have a1048640 : r2 1048640 = (r 1048640 + (1 : Int)) := yas hR (List.mem_cons_of_mem _ List.mem_cons_self)
          have a1048704 : r2 1048704 = (r 1048704 + (1 : Int)) := yas hR (List.mem_cons_of_mem _ (List.mem_cons_of_mem _ List.mem_cons_self))
          have a1049153 : r2 1049153 = r 1049153 := yas hR (List.mem_cons_of_mem _ (List.mem_cons_of_mem _ (List.mem_cons_of_mem _ List.mem_cons_self)))
          have fS : ∀ j : Nat, j < 16 → r2 (4194310 + 64 * j) = (bif decide (r 1048960 = (j : Int)) then ((0, -1) : ycV) else (0, r (4194310 + 64 * j))).2 := fun j hj => hR.2.1 _ List.mem_cons_self (4194310, 16, 506) List.mem_cons_self rfl j hj
          have fD : ∀ j : Nat, j < 16 → r2 (4195394 + 64 * j) = (xct r (.branch 0 (.leaf (10, .num 4195394)) (.branch 0 (.branch 0 (.branch 0 (.branch 0 (.leaf (0, .add (.var 4195458) (.num 1))) (.leaf (10, .num 4195394))) (.leaf (10, .num 4195394))) (.leaf (10, .num 4195394))) (.leaf (10, .num 4195394)))) j).2 := fun j hj => hR.2.1 _ (List.mem_cons_of_mem _ List.mem_cons_self) (4195394, 16, 505) (List.mem_cons_of_mem _ List.mem_cons_self) rfl j hj
          have fD2 : ∀ s : Nat, s < 8 → s ≠ (S p).toNat → r2 (4195394 + 64 * s) = D s := fun s hs hn => ((fD s (by omega)).trans (yb48_d9 r s hs (by omega))).trans (m5 s hs)
          have t1 : (0 : Int) ≤ r 1048704 ∧ r 1048704 ≤ (6 : Int) := hR.2.2.1 _ (List.mem_cons_of_mem _ List.mem_cons_self)
          have hv2 := yb48a_n hv (by omega) (by decide)
          exact hC r2 w x (f + 1) (yb48u S p (-1)) (fun s => r2 (4195394 + 64 * s)) hr2 G2 (a1049153.trans hZ) ⟨aw, a1048577.trans m2, by omega, fun k hk => yb48_fu (fS k (by omega)) hup rfl (m4 k hk), fun _ _ => rfl, yb48J_step m6 hp (by omega) fD2 (by decide)⟩ (by omega) hv2
      · have hv := yb48w_s hy (by omega)
        have ed : r 4195522 = 0 := (m5 2 (by decide)).trans (by
          have z := m6.2.2.1 p hp (by omega)
          rw [e] at z
          exact z)
        have H1 := xHc (e := .sub (.var 128) (.var 1048960)) (lo := 1) (hi := 16) H (show (1 : Int) ≤ (r 128 - r 1048960) by omega) (show (r 128 - r 1048960) ≤ (16 : Int) by omega)
        have H2 := xHc (e := .var 1049024) (lo := 0) (hi := 0) H1 (show (0 : Int) ≤ r 1049024 by omega) (show r 1049024 ≤ (0 : Int) by omega)
        have H3 := xHc (e := .pow (.sub (.num 4194310) (.var 1048960)) 0) (lo := 2) (hi := 2) H2 (show (2 : Int) ≤ r (4194310 + 64 * (r 1048960).toNat) by omega) (show r (4194310 + 64 * (r 1048960).toNat) ≤ (2 : Int) by omega)
        have H4 := xHc (e := .var 4195522) (lo := 0) (hi := 0) H3 (show (0 : Int) ≤ r 4195522 by omega) (show r 4195522 ≤ (0 : Int) by omega)
        refine yz_run hL yq48_V4s2 hr H4 (xcut_s fun c hc r2 G2 hR => ?_)
        have hr2 : yzr L xs r2 := fun i hi => by rw [hR.2.2.2 i hi]; exact hr i hi
        have aw : r2 128 = w := (hR.2.2.2 128 (by decide)).trans m1
        simp only [List.mem_cons, List.not_mem_nil, or_false] at hc
        rcases hc with rfl | rfl | rfl
        · have a1048640 : r2 1048640 = (r 1048640 + (1 : Int)) := yas hR List.mem_cons_self
          have a1048704 : r2 1048704 = (r 1048704 + (1 : Int)) := yas hR (List.mem_cons_of_mem _ List.mem_cons_self)
          have a1049153 : r2 1049153 = r 1049153 := yas hR (List.mem_cons_of_mem _ (List.mem_cons_of_mem _ List.mem_cons_self))
          have fS : ∀ j : Nat, j < 16 → r2 (4194310 + 64 * j) = (bif decide (r 1048960 = (j : Int)) then ((0, -1) : ycV) else (0, r (4194310 + 64 * j))).2 := fun j hj => hR.2.1 _ List.mem_cons_self (4194310, 16, 506) List.mem_cons_self rfl j hj
          have fD : ∀ j : Nat, j < 16 → r2 (4195394 + 64 * j) = (xct r (.branch 0 (.branch 0 (.leaf (10, .num 4195394)) (.branch 0 (.branch 0 (.branch 0 (.leaf (0, .add (.var 4195522) (.num 1))) (.leaf (10, .num 4195394))) (.leaf (10, .num 4195394))) (.leaf (10, .num 4195394)))) (.leaf (10, .num 4195394))) j).2 := fun j hj => hR.2.1 _ (List.mem_cons_of_mem _ List.mem_cons_self) (4195394, 16, 505) (List.mem_cons_of_mem _ List.mem_cons_self) rfl j hj
          have fD2 : ∀ s : Nat, s < 8 → s ≠ (S p).toNat → r2 (4195394 + 64 * s) = D s := fun s hs hn => ((fD s (by omega)).trans (yb48_d10 r s hs (by omega))).trans (m5 s hs)
          have t0 : (7 : Int) ≤ r 1048704 ∧ r 1048704 ≤ (7 : Int) := hR.2.2.1 _ List.mem_cons_self
          exact hE0 (yb48a_e hv (by omega)) r2 hr2 G2 (a1049153.trans hZ)
        · have a1048640 : r2 1048640 = (r 1048640 + (1 : Int)) := yas hR List.mem_cons_self
          have a1048704 : r2 1048704 = (r 1048704 + (1 : Int)) := yas hR (List.mem_cons_of_mem _ List.mem_cons_self)
          have a1049153 : r2 1049153 = r 1049153 := yas hR (List.mem_cons_of_mem _ (List.mem_cons_of_mem _ List.mem_cons_self))
          have fS : ∀ j : Nat, j < 16 → r2 (4194310 + 64 * j) = (bif decide (r 1048960 = (j : Int)) then ((0, -1) : ycV) else (0, r (4194310 + 64 * j))).2 := fun j hj => hR.2.1 _ List.mem_cons_self (4194310, 16, 506) List.mem_cons_self rfl j hj
          have fD : ∀ j : Nat, j < 16 → r2 (4195394 + 64 * j) = (xct r (.branch 0 (.branch 0 (.leaf (10, .num 4195394)) (.branch 0 (.branch 0 (.branch 0 (.leaf (0, .add (.var 4195522) (.num 1))) (.leaf (10, .num 4195394))) (.leaf (10, .num 4195394))) (.leaf (10, .num 4195394)))) (.leaf (10, .num 4195394))) j).2 := fun j hj => hR.2.1 _ (List.mem_cons_of_mem _ List.mem_cons_self) (4195394, 16, 505) (List.mem_cons_of_mem _ List.mem_cons_self) rfl j hj
          have fD2 : ∀ s : Nat, s < 8 → s ≠ (S p).toNat → r2 (4195394 + 64 * s) = D s := fun s hs hn => ((fD s (by omega)).trans (yb48_d10 r s hs (by omega))).trans (m5 s hs)
          have t1 : (0 : Int) ≤ r 1048704 ∧ r 1048704 ≤ (6 : Int) := hR.2.2.1 _ (List.mem_cons_of_mem _ List.mem_cons_self)
          have hv2 := yb48a_n hv (by omega) (by decide)
          have t0 : (19999 : Int) ≤ r 1048640 ∧ r 1048640 ≤ (19999 : Int) := hR.2.2.1 _ List.mem_cons_self
          have hn : n = 0 := by omega
          subst hn
          exact hE3 (yb48_0 hv2) r2 hr2 G2 (a1049153.trans hZ)
        · have a1048577 : r2 1048577 = r 1048577 := yas hR List.mem_cons_self
          have a1048640 : r2 1048640 = (r 1048640 + (1 : Int)) := yas hR (List.mem_cons_of_mem _ List.mem_cons_self)
          have a1048704 : r2 1048704 = (r 1048704 + (1 : Int)) := yas hR (List.mem_cons_of_mem _ (List.mem_cons_of_mem _ List.mem_cons_self))
          have a1049153 : r2 1049153 = r 1049153 := yas hR (List.mem_cons_of_mem _ (List.mem_cons_of_mem _ (List.mem_cons_of_mem _ List.mem_cons_self)))
          have fS : ∀ j : Nat, j < 16 → r2 (4194310 + 64 * j) = (bif decide (r 1048960 = (j : Int)) then ((0, -1) : ycV) else (0, r (4194310 + 64 * j))).2 := fun j hj => hR.2.1 _ List.mem_cons_self (4194310, 16, 506) List.mem_cons_self rfl j hj
          have fD : ∀ j : Nat, j < 16 → r2 (4195394 + 64 * j) = (xct r (.branch 0 (.branch 0 (.leaf (10, .num 4195394)) (.branch 0 (.branch 0 (.branch 0 (.leaf (0, .add (.var 4195522) (.num 1))) (.leaf (10, .num 4195394))) (.leaf (10, .num 4195394))) (.leaf (10, .num 4195394)))) (.leaf (10, .num 4195394))) j).2 := fun j hj => hR.2.1 _ (List.mem_cons_of_mem _ List.mem_cons_self) (4195394, 16, 505) (List.mem_cons_of_mem _ List.mem_cons_self) rfl j hj
          have fD2 : ∀ s : Nat, s < 8 → s ≠ (S p).toNat → r2 (4195394 + 64 * s) = D s := fun s hs hn => ((fD s (by omega)).trans (yb48_d10 r s hs (by omega))).trans (m5 s hs)
          have t1 : (0 : Int) ≤ r 1048704 ∧ r 1048704 ≤ (6 : Int) := hR.2.2.1 _ (List.mem_cons_of_mem _ List.mem_cons_self)
          have hv2 := yb48a_n hv (by omega) (by decide)
          exact hC r2 w x (f + 1) (yb48u S p (-1)) (fun s => r2 (4195394 + 64 * s)) hr2 G2 (a1049153.trans hZ) ⟨aw, a1048577.trans m2, by omega, fun k hk => yb48_fu (fS k (by omega)) hup rfl (m4 k hk), fun _ _ => rfl, yb48J_step m6 hp (by omega) fD2 (by decide)⟩ (by omega) hv2
      · have hv := yb48w_s hy (by omega)
        have ed : r 4195586 = 0 := (m5 3 (by decide)).trans (by
          have z := m6.2.2.1 p hp (by omega)
          rw [e] at z
          exact z)
        have H1 := xHc (e := .sub (.var 128) (.var 1048960)) (lo := 1) (hi := 16) H (show (1 : Int) ≤ (r 128 - r 1048960) by omega) (show (r 128 - r 1048960) ≤ (16 : Int) by omega)
        have H2 := xHc (e := .var 1049024) (lo := 0) (hi := 0) H1 (show (0 : Int) ≤ r 1049024 by omega) (show r 1049024 ≤ (0 : Int) by omega)
        have H3 := xHc (e := .pow (.sub (.num 4194310) (.var 1048960)) 0) (lo := 3) (hi := 3) H2 (show (3 : Int) ≤ r (4194310 + 64 * (r 1048960).toNat) by omega) (show r (4194310 + 64 * (r 1048960).toNat) ≤ (3 : Int) by omega)
        have H4 := xHc (e := .var 4195586) (lo := 0) (hi := 0) H3 (show (0 : Int) ≤ r 4195586 by omega) (show r 4195586 ≤ (0 : Int) by omega)
        refine yz_run hL yq48_V4s3 hr H4 (xcut_s fun c hc r2 G2 hR => ?_)
        have hr2 : yzr L xs r2 := fun i hi => by rw [hR.2.2.2 i hi]; exact hr i hi
        have aw : r2 128 = w := (hR.2.2.2 128 (by decide)).trans m1
        simp only [List.mem_cons, List.not_mem_nil, or_false] at hc
        rcases hc with rfl | rfl | rfl
        · have a1048640 : r2 1048640 = (r 1048640 + (1 : Int)) := yas hR List.mem_cons_self
          have a1048704 : r2 1048704 = (r 1048704 + (1 : Int)) := yas hR (List.mem_cons_of_mem _ List.mem_cons_self)
          have a1049153 : r2 1049153 = r 1049153 := yas hR (List.mem_cons_of_mem _ (List.mem_cons_of_mem _ List.mem_cons_self))
          have fS : ∀ j : Nat, j < 16 → r2 (4194310 + 64 * j) = (bif decide (r 1048960 = (j : Int)) then ((0, -1) : ycV) else (0, r (4194310 + 64 * j))).2 := fun j hj => hR.2.1 _ List.mem_cons_self (4194310, 16, 506) List.mem_cons_self rfl j hj
          have fD : ∀ j : Nat, j < 16 → r2 (4195394 + 64 * j) = (xct r (.branch 0 (.leaf (10, .num 4195394)) (.branch 0 (.leaf (10, .num 4195394)) (.branch 0 (.branch 0 (.branch 0 (.leaf (0, .add (.var 4195586) (.num 1))) (.leaf (10, .num 4195394))) (.leaf (10, .num 4195394))) (.leaf (10, .num 4195394))))) j).2 := fun j hj => hR.2.1 _ (List.mem_cons_of_mem _ List.mem_cons_self) (4195394, 16, 505) (List.mem_cons_of_mem _ List.mem_cons_self) rfl j hj
          have fD2 : ∀ s : Nat, s < 8 → s ≠ (S p).toNat → r2 (4195394 + 64 * s) = D s := fun s hs hn => ((fD s (by omega)).trans (yb48_d11 r s hs (by omega))).trans (m5 s hs)
          have t0 : (7 : Int) ≤ r 1048704 ∧ r 1048704 ≤ (7 : Int) := hR.2.2.1 _ List.mem_cons_self
          exact hE0 (yb48a_e hv (by omega)) r2 hr2 G2 (a1049153.trans hZ)
        · have a1048640 : r2 1048640 = (r 1048640 + (1 : Int)) := yas hR List.mem_cons_self
          have a1048704 : r2 1048704 = (r 1048704 + (1 : Int)) := yas hR (List.mem_cons_of_mem _ List.mem_cons_self)
          have a1049153 : r2 1049153 = r 1049153 := yas hR (List.mem_cons_of_mem _ (List.mem_cons_of_mem _ List.mem_cons_self))
          have fS : ∀ j : Nat, j < 16 → r2 (4194310 + 64 * j) = (bif decide (r 1048960 = (j : Int)) then ((0, -1) : ycV) else (0, r (4194310 + 64 * j))).2 := fun j hj => hR.2.1 _ List.mem_cons_self (4194310, 16, 506) List.mem_cons_self rfl j hj
          have fD : ∀ j : Nat, j < 16 → r2 (4195394 + 64 * j) = (xct r (.branch 0 (.leaf (10, .num 4195394)) (.branch 0 (.leaf (10, .num 4195394)) (.branch 0 (.branch 0 (.branch 0 (.leaf (0, .add (.var 4195586) (.num 1))) (.leaf (10, .num 4195394))) (.leaf (10, .num 4195394))) (.leaf (10, .num 4195394))))) j).2 := fun j hj => hR.2.1 _ (List.mem_cons_of_mem _ List.mem_cons_self) (4195394, 16, 505) (List.mem_cons_of_mem _ List.mem_cons_self) rfl j hj
          have fD2 : ∀ s : Nat, s < 8 → s ≠ (S p).toNat → r2 (4195394 + 64 * s) = D s := fun s hs hn => ((fD s (by omega)).trans (yb48_d11 r s hs (by omega))).trans (m5 s hs)
          have t1 : (0 : Int) ≤ r 1048704 ∧ r 1048704 ≤ (6 : Int) := hR.2.2.1 _ (List.mem_cons_of_mem _ List.mem_cons_self)
          have hv2 := yb48a_n hv (by omega) (by decide)
          have t0 : (19999 : Int) ≤ r 1048640 ∧ r 1048640 ≤ (19999 : Int) := hR.2.2.1 _ List.mem_cons_self
          have hn : n = 0 := by omega
          subst hn
          exact hE3 (yb48_0 hv2) r2 hr2 G2 (a1049153.trans hZ)
        · have a1048577 : r2 1048577 = r 1048577 := yas hR List.mem_cons_self
          have a1048640 : r2 1048640 = (r 1048640 + (1 : Int)) := yas hR (List.mem_cons_of_mem _ List.mem_cons_self)
          have a1048704 : r2 1048704 = (r 1048704 + (1 : Int)) := yas hR (List.mem_cons_of_mem _ (List.mem_cons_of_mem _ List.mem_cons_self))
          have a1049153 : r2 1049153 = r 1049153 := yas hR (List.mem_cons_of_mem _ (List.mem_cons_of_mem _ (List.mem_cons_of_mem _ List.mem_cons_self)))
          have fS : ∀ j : Nat, j < 16 → r2 (4194310 + 64 * j) = (bif decide (r 1048960 = (j : Int)) then ((0, -1) : ycV) else (0, r (4194310 + 64 * j))).2 := fun j hj => hR.2.1 _ List.mem_cons_self (4194310, 16, 506) List.mem_cons_self rfl j hj
          have fD : ∀ j : Nat, j < 16 → r2 (4195394 + 64 * j) = (xct r (.branch 0 (.leaf (10, .num 4195394)) (.branch 0 (.leaf (10, .num 4195394)) (.branch 0 (.branch 0 (.branch 0 (.leaf (0, .add (.var 4195586) (.num 1))) (.leaf (10, .num 4195394))) (.leaf (10, .num 4195394))) (.leaf (10, .num 4195394))))) j).2 := fun j hj => hR.2.1 _ (List.mem_cons_of_mem _ List.mem_cons_self) (4195394, 16, 505) (List.mem_cons_of_mem _ List.mem_cons_self) rfl j hj
          have fD2 : ∀ s : Nat, s < 8 → s ≠ (S p).toNat → r2 (4195394 + 64 * s) = D s := fun s hs hn => ((fD s (by omega)).trans (yb48_d11 r s hs (by omega))).trans (m5 s hs)
          have t1 : (0 : Int) ≤ r 1048704 ∧ r 1048704 ≤ (6 : Int) := hR.2.2.1 _ (List.mem_cons_of_mem _ List.mem_cons_self)
          have hv2 := yb48a_n hv (by omega) (by decide)
          exact hC r2 w x (f + 1) (yb48u S p (-1)) (fun s => r2 (4195394 + 64 * s)) hr2 G2 (a1049153.trans hZ) ⟨aw, a1048577.trans m2, by omega, fun k hk => yb48_fu (fS k (by omega)) hup rfl (m4 k hk), fun _ _ => rfl, yb48J_step m6 hp (by omega) fD2 (by decide)⟩ (by omega) hv2
    · have H1 := xHc (e := .sub (.var 128) (.var 1048960)) (lo := 2) (hi := 16) H (show (2 : Int) ≤ (r 128 - r 1048960) by omega) (show (r 128 - r 1048960) ≤ (16 : Int) by omega)
      have H2 := xHc (e := .var 1049024) (lo := 1) (hi := 15) H1 (show (1 : Int) ≤ r 1049024 by omega) (show r 1049024 ≤ (15 : Int) by omega)
      refine yz_run hL yq48_V4n hr H2 (xcut_s fun c hc r2 G2 hR => ?_)
      have hr2 : yzr L xs r2 := fun i hi => by rw [hR.2.2.2 i hi]; exact hr i hi
      have aw : r2 128 = w := (hR.2.2.2 128 (by decide)).trans m1
      rw [List.mem_singleton] at hc
      subst hc
      have a1048577 : r2 1048577 = r 1048577 := yas hR List.mem_cons_self
      have a1049024 : r2 1049024 = (r 1049024 + (-1 : Int)) := yas hR (List.mem_cons_of_mem _ List.mem_cons_self)
      have a1048960 : r2 1048960 = (r 1048960 + (1 : Int)) := yas hR (List.mem_cons_of_mem _ (List.mem_cons_of_mem _ List.mem_cons_self))
      have a1048640 : r2 1048640 = r 1048640 := yas hR (List.mem_cons_of_mem _ (List.mem_cons_of_mem _ (List.mem_cons_of_mem _ List.mem_cons_self)))
      have a1048704 : r2 1048704 = r 1048704 := yas hR (List.mem_cons_of_mem _ (List.mem_cons_of_mem _ (List.mem_cons_of_mem _ (List.mem_cons_of_mem _ List.mem_cons_self))))
      have a1049153 : r2 1049153 = r 1049153 := yas hR (List.mem_cons_of_mem _ (List.mem_cons_of_mem _ (List.mem_cons_of_mem _ (List.mem_cons_of_mem _ (List.mem_cons_of_mem _ List.mem_cons_self)))))
      have fS : ∀ j : Nat, j < 16 → r2 (4194310 + 64 * j) = r (4194310 + 64 * j) := fun j hj => hR.2.1 _ List.mem_cons_self (4194310, 16, 506) List.mem_cons_self rfl j hj
      have fD : ∀ j : Nat, j < 16 → r2 (4195394 + 64 * j) = r (4195394 + 64 * j) := fun j hj => hR.2.1 _ (List.mem_cons_of_mem _ List.mem_cons_self) (4195394, 16, 505) (List.mem_cons_of_mem _ List.mem_cons_self) rfl j hj
      exact ih r2 hr2 G2 (a1049153.trans hZ) ⟨aw, a1048577.trans m2, a1048704.trans m3, fun k hk => (fS k (by omega)).trans (m4 k hk), fun s hs => (fD s (by omega)).trans (m5 s hs), m6⟩ (by omega) (by omega) (by omega)
theorem y48_R5 {L : Nat} {xs : Nat → Int32} (hL : L ≤ 3584) {y0 : Int} {n : Nat} (hW : yb48V L xs (yZ1 y0) y0 yt48_V5 yF48_V5 n 5) : yb48C L xs (yZ1 y0) y0 yt48_R5 yF48_R5 (n + 1) 5 := by
  intro r w x f S D hr H hZ hM hT hy
  obtain ⟨m1, m2, m3, m4, m5, m6⟩ := hM
  have hw : 1 ≤ r 128 ∧ r 128 ≤ 16 := xbd_s H (e := .var 128) (lo := 1) (hi := 16) (by decide +kernel)
  have hw2 : 1 ≤ w ∧ w ≤ 16 := by omega
  have H1 := xHc (e := .sub (.var 128) (.pow (.add (.pow (.add (.pow (.add (.pow (.add (.var 1048577) (.num 6364136223846793005)) 38) (.num 1442695040888963407)) 36) (.num 33)) 51) (.var 128)) 40)) (lo := 1) (hi := 16) H (by rw [xden_sub, xden_var, yb48P_d, m1, m2]; exact (yb48_w1 (yb48P_r hw2.1 hw2.2) hw2.2).1) (by rw [xden_sub, xden_var, yb48P_d, m1, m2]; exact (yb48_w1 (yb48P_r hw2.1 hw2.2) hw2.2).2)
  refine yz_run hL yq48_R5 hr H1 (xcut_s fun c hc r2 G2 hR => ?_)
  have hr2 : yzr L xs r2 := fun i hi => by rw [hR.2.2.2 i hi]; exact hr i hi
  have aw : r2 128 = w := (hR.2.2.2 128 (by decide)).trans m1
  rw [List.mem_singleton] at hc
  subst hc
  have a1048960 : r2 1048960 = (0 : Int) := yas hR (List.mem_cons_of_mem _ (List.mem_cons_of_mem _ List.mem_cons_self))
  have a1048640 : r2 1048640 = r 1048640 := yas hR (List.mem_cons_of_mem _ (List.mem_cons_of_mem _ (List.mem_cons_of_mem _ List.mem_cons_self)))
  have a1048704 : r2 1048704 = r 1048704 := yas hR (List.mem_cons_of_mem _ (List.mem_cons_of_mem _ (List.mem_cons_of_mem _ (List.mem_cons_of_mem _ List.mem_cons_self))))
  have a1049153 : r2 1049153 = r 1049153 := yas hR (List.mem_cons_of_mem _ (List.mem_cons_of_mem _ (List.mem_cons_of_mem _ (List.mem_cons_of_mem _ (List.mem_cons_of_mem _ List.mem_cons_self)))))
  have fS : ∀ j : Nat, j < 16 → r2 (4194310 + 64 * j) = r (4194310 + 64 * j) := fun j hj => hR.2.1 _ List.mem_cons_self (4194310, 16, 506) List.mem_cons_self rfl j hj
  have fD : ∀ j : Nat, j < 16 → r2 (4195394 + 64 * j) = r (4195394 + 64 * j) := fun j hj => hR.2.1 _ (List.mem_cons_of_mem _ List.mem_cons_self) (4195394, 16, 505) (List.mem_cons_of_mem _ List.mem_cons_self) rfl j hj
  have o1 := hT
  have gS : ∀ k : Nat, (k : Int) < w → r2 (4194310 + 64 * k) = S k := fun k hk => (fS k (by omega)).trans (m4 k hk)
  have gD : ∀ s : Nat, s < 8 → r2 (4195394 + 64 * s) = D s := fun s hs => (fD s (by omega)).trans (m5 s hs)
  have gT : r2 1048640 + (n : Int) + 1 = 20000 := by omega
  have a1048577 : r2 1048577 = yb48X (r 1048577) := (yas hR List.mem_cons_self).trans (yb48X_d r)
  have a1049024 : r2 1049024 = yb48P (r 128) (r 1048577) := (yas hR (List.mem_cons_of_mem _ List.mem_cons_self)).trans (yb48P_d r)
  exact hW r2 w (yb48X x) f S D (yb48P w x).toNat hr2 G2 (a1049153.trans hZ) ⟨aw, by rw [a1048577, m2], a1048704.trans m3, gS, gD, m6⟩ gT (yb48_w2 (yb48P_r hw2.1 hw2.2)) (by rw [a1049024, a1048960, m1, m2]; exact yb48_w4 (yb48P_r hw2.1 hw2.2)) (yb48_t hy)
theorem y48_V5 {L : Nat} {xs : Nat → Int32} (hL : L ≤ 3584) {y0 : Int} {n : Nat} (hC : yb48C L xs (yZ1 y0) y0 yt48_R5 yF48_R5 n 5) (hC1 : yb48C L xs (yZ1 y0) y0 yt48_R4 yF48_R4 n 4) (hE0 : yb48E L xs (yZ1 y0) y0 (0) yt48_X0 yF48_X0) (hE3 : yb48E L xs (yZ1 y0) y0 (-3) yt48_X3 yF48_X3) : yb48V L xs (yZ1 y0) y0 yt48_V5 yF48_V5 n 5 := by
  intro r w x f S D p hr H hZ hM hT hp hP hy
  suffices main : ∀ d : Nat, ∀ r, yzr L xs r → xH r yF48_V5 → (yZ1 y0) r → yb48M r w 5 x f S D → r 1048640 + (n : Int) + 1 = 20000 → r 1049024 + r 1048960 = (p : Int) → r 1049024 < (d : Int) → xGl (yfT (ykold L xs)) r yzP yt48_V5 from
    main 16 r hr H hZ hM hT hP (by
      have hPb : 0 ≤ r 1049024 ∧ r 1049024 ≤ 15 := xbd_s H (e := .var 1049024) (lo := 0) (hi := 15) (by decide +kernel)
      omega)
  intro d
  induction d with
  | zero =>
    intro r hr H hZ hM hT hP hd
    have hPb : 0 ≤ r 1049024 ∧ r 1049024 ≤ 15 := xbd_s H (e := .var 1049024) (lo := 0) (hi := 15) (by decide +kernel)
    omega
  | succ d ih =>
    intro r hr H hZ hM hT hP hd
    have hPb : 0 ≤ r 1049024 ∧ r 1049024 ≤ 15 := xbd_s H (e := .var 1049024) (lo := 0) (hi := 15) (by decide +kernel)
    obtain ⟨m1, m2, m3, m4, m5, m6⟩ := hM
    have hw : 1 ≤ r 128 ∧ r 128 ≤ 16 := xbd_s H (e := .var 128) (lo := 1) (hi := 16) (by decide +kernel)
    have hu : 0 ≤ r 1048960 ∧ r 1048960 ≤ 15 := xbd_s H (e := .var 1048960) (lo := 0) (hi := 15) (by decide +kernel)
    have hf : 0 ≤ r 1048704 ∧ r 1048704 ≤ 7 := xbd_s H (e := .var 1048704) (lo := 0) (hi := 7) (by decide +kernel)
    by_cases hup0 : r 1049024 = 0
    · have hup : r 1048960 = (p : Int) := by omega
      have es : r (4194310 + 64 * (r 1048960).toNat) = S p := by
        have e0 : (r 1048960).toNat = p := by omega
        rw [e0]
        exact m4 p hp
      have j1 := m6.1 p hp
      have e : S p = -1 ∨ S p = 0 ∨ S p = 1 ∨ S p = 2 := by omega
      rcases e with e | e | e | e
      · have hv := yb48w_t (q := 4) hy e
        have hv2 := yb48a_n hv (by omega) (by decide)
        have H1 := xHc (e := .sub (.var 128) (.var 1048960)) (lo := 1) (hi := 16) H (show (1 : Int) ≤ (r 128 - r 1048960) by omega) (show (r 128 - r 1048960) ≤ (16 : Int) by omega)
        have H2 := xHc (e := .var 1049024) (lo := 0) (hi := 0) H1 (show (0 : Int) ≤ r 1049024 by omega) (show r 1049024 ≤ (0 : Int) by omega)
        have H3 := xHc (e := .pow (.sub (.num 4194310) (.var 1048960)) 0) (lo := -1) (hi := -1) H2 (show (-1 : Int) ≤ r (4194310 + 64 * (r 1048960).toNat) by omega) (show r (4194310 + 64 * (r 1048960).toNat) ≤ (-1 : Int) by omega)
        refine yz_run hL yq48_V5t hr H3 (xcut_s fun c hc r2 G2 hR => ?_)
        have hr2 : yzr L xs r2 := fun i hi => by rw [hR.2.2.2 i hi]; exact hr i hi
        have aw : r2 128 = w := (hR.2.2.2 128 (by decide)).trans m1
        simp only [List.mem_cons, List.not_mem_nil, or_false] at hc
        rcases hc with rfl | rfl
        · have a1048640 : r2 1048640 = (r 1048640 + (1 : Int)) := yas hR List.mem_cons_self
          have a1048704 : r2 1048704 = r 1048704 := yas hR (List.mem_cons_of_mem _ List.mem_cons_self)
          have a1049153 : r2 1049153 = r 1049153 := yas hR (List.mem_cons_of_mem _ (List.mem_cons_of_mem _ List.mem_cons_self))
          have fS : ∀ j : Nat, j < 16 → r2 (4194310 + 64 * j) = (bif decide (r 1048960 = (j : Int)) then ((0, 3) : ycV) else (0, r (4194310 + 64 * j))).2 := fun j hj => hR.2.1 _ List.mem_cons_self (4194310, 16, 506) List.mem_cons_self rfl j hj
          have fD : ∀ j : Nat, j < 16 → r2 (4195394 + 64 * j) = r (4195394 + 64 * j) := fun j hj => hR.2.1 _ (List.mem_cons_of_mem _ List.mem_cons_self) (4195394, 16, 505) (List.mem_cons_of_mem _ List.mem_cons_self) rfl j hj
          have t0 : (19999 : Int) ≤ r 1048640 ∧ r 1048640 ≤ (19999 : Int) := hR.2.2.1 _ List.mem_cons_self
          have hn : n = 0 := by omega
          subst hn
          exact hE3 (yb48_0 hv2) r2 hr2 G2 (a1049153.trans hZ)
        · have a1048577 : r2 1048577 = r 1048577 := yas hR List.mem_cons_self
          have a1048640 : r2 1048640 = (r 1048640 + (1 : Int)) := yas hR (List.mem_cons_of_mem _ List.mem_cons_self)
          have a1048704 : r2 1048704 = r 1048704 := yas hR (List.mem_cons_of_mem _ (List.mem_cons_of_mem _ List.mem_cons_self))
          have a1049153 : r2 1049153 = r 1049153 := yas hR (List.mem_cons_of_mem _ (List.mem_cons_of_mem _ (List.mem_cons_of_mem _ List.mem_cons_self)))
          have fS : ∀ j : Nat, j < 16 → r2 (4194310 + 64 * j) = (bif decide (r 1048960 = (j : Int)) then ((0, 3) : ycV) else (0, r (4194310 + 64 * j))).2 := fun j hj => hR.2.1 _ List.mem_cons_self (4194310, 16, 506) List.mem_cons_self rfl j hj
          have fD : ∀ j : Nat, j < 16 → r2 (4195394 + 64 * j) = r (4195394 + 64 * j) := fun j hj => hR.2.1 _ (List.mem_cons_of_mem _ List.mem_cons_self) (4195394, 16, 505) (List.mem_cons_of_mem _ List.mem_cons_self) rfl j hj
          exact hC1 r2 w x f (yb48u S p (8 - ((4 + 1 : Nat) : Int))) D hr2 G2 (a1049153.trans hZ) ⟨aw, a1048577.trans m2, a1048704.trans m3, fun k hk => yb48_fu (fS k (by omega)) hup (by decide) (m4 k hk), fun s hs => (fD s (by omega)).trans (m5 s hs), yb48J_take m6 hp (by decide)⟩ (by omega) hv2
      · have hv := yb48w_s hy (by omega)
        have ed : r 4195394 = 0 := (m5 0 (by decide)).trans (by
          have z := m6.2.2.1 p hp (by omega)
          rw [e] at z
          exact z)
        have H1 := xHc (e := .sub (.var 128) (.var 1048960)) (lo := 1) (hi := 16) H (show (1 : Int) ≤ (r 128 - r 1048960) by omega) (show (r 128 - r 1048960) ≤ (16 : Int) by omega)
        have H2 := xHc (e := .var 1049024) (lo := 0) (hi := 0) H1 (show (0 : Int) ≤ r 1049024 by omega) (show r 1049024 ≤ (0 : Int) by omega)
        have H3 := xHc (e := .pow (.sub (.num 4194310) (.var 1048960)) 0) (lo := 0) (hi := 0) H2 (show (0 : Int) ≤ r (4194310 + 64 * (r 1048960).toNat) by omega) (show r (4194310 + 64 * (r 1048960).toNat) ≤ (0 : Int) by omega)
        have H4 := xHc (e := .var 4195394) (lo := 0) (hi := 0) H3 (show (0 : Int) ≤ r 4195394 by omega) (show r 4195394 ≤ (0 : Int) by omega)
        refine yz_run hL yq48_V5s0 hr H4 (xcut_s fun c hc r2 G2 hR => ?_)
        have hr2 : yzr L xs r2 := fun i hi => by rw [hR.2.2.2 i hi]; exact hr i hi
        have aw : r2 128 = w := (hR.2.2.2 128 (by decide)).trans m1
        simp only [List.mem_cons, List.not_mem_nil, or_false] at hc
        rcases hc with rfl | rfl | rfl
        · have a1048640 : r2 1048640 = (r 1048640 + (1 : Int)) := yas hR List.mem_cons_self
          have a1048704 : r2 1048704 = (r 1048704 + (1 : Int)) := yas hR (List.mem_cons_of_mem _ List.mem_cons_self)
          have a1049153 : r2 1049153 = r 1049153 := yas hR (List.mem_cons_of_mem _ (List.mem_cons_of_mem _ List.mem_cons_self))
          have fS : ∀ j : Nat, j < 16 → r2 (4194310 + 64 * j) = (bif decide (r 1048960 = (j : Int)) then ((0, -1) : ycV) else (0, r (4194310 + 64 * j))).2 := fun j hj => hR.2.1 _ List.mem_cons_self (4194310, 16, 506) List.mem_cons_self rfl j hj
          have fD : ∀ j : Nat, j < 16 → r2 (4195394 + 64 * j) = (xct r (.branch 0 (.branch 0 (.branch 0 (.branch 0 (.branch 0 (.leaf (0, .add (.var 4195394) (.num 1))) (.leaf (10, .num 4195394))) (.leaf (10, .num 4195394))) (.leaf (10, .num 4195394))) (.leaf (10, .num 4195394))) (.leaf (10, .num 4195394))) j).2 := fun j hj => hR.2.1 _ (List.mem_cons_of_mem _ List.mem_cons_self) (4195394, 16, 505) (List.mem_cons_of_mem _ List.mem_cons_self) rfl j hj
          have fD2 : ∀ s : Nat, s < 8 → s ≠ (S p).toNat → r2 (4195394 + 64 * s) = D s := fun s hs hn => ((fD s (by omega)).trans (yb48_d8 r s hs (by omega))).trans (m5 s hs)
          have t0 : (7 : Int) ≤ r 1048704 ∧ r 1048704 ≤ (7 : Int) := hR.2.2.1 _ List.mem_cons_self
          exact hE0 (yb48a_e hv (by omega)) r2 hr2 G2 (a1049153.trans hZ)
        · have a1048640 : r2 1048640 = (r 1048640 + (1 : Int)) := yas hR List.mem_cons_self
          have a1048704 : r2 1048704 = (r 1048704 + (1 : Int)) := yas hR (List.mem_cons_of_mem _ List.mem_cons_self)
          have a1049153 : r2 1049153 = r 1049153 := yas hR (List.mem_cons_of_mem _ (List.mem_cons_of_mem _ List.mem_cons_self))
          have fS : ∀ j : Nat, j < 16 → r2 (4194310 + 64 * j) = (bif decide (r 1048960 = (j : Int)) then ((0, -1) : ycV) else (0, r (4194310 + 64 * j))).2 := fun j hj => hR.2.1 _ List.mem_cons_self (4194310, 16, 506) List.mem_cons_self rfl j hj
          have fD : ∀ j : Nat, j < 16 → r2 (4195394 + 64 * j) = (xct r (.branch 0 (.branch 0 (.branch 0 (.branch 0 (.branch 0 (.leaf (0, .add (.var 4195394) (.num 1))) (.leaf (10, .num 4195394))) (.leaf (10, .num 4195394))) (.leaf (10, .num 4195394))) (.leaf (10, .num 4195394))) (.leaf (10, .num 4195394))) j).2 := fun j hj => hR.2.1 _ (List.mem_cons_of_mem _ List.mem_cons_self) (4195394, 16, 505) (List.mem_cons_of_mem _ List.mem_cons_self) rfl j hj
          have fD2 : ∀ s : Nat, s < 8 → s ≠ (S p).toNat → r2 (4195394 + 64 * s) = D s := fun s hs hn => ((fD s (by omega)).trans (yb48_d8 r s hs (by omega))).trans (m5 s hs)
          have t1 : (0 : Int) ≤ r 1048704 ∧ r 1048704 ≤ (6 : Int) := hR.2.2.1 _ (List.mem_cons_of_mem _ List.mem_cons_self)
          have hv2 := yb48a_n hv (by omega) (by decide)
          have t0 : (19999 : Int) ≤ r 1048640 ∧ r 1048640 ≤ (19999 : Int) := hR.2.2.1 _ List.mem_cons_self
          have hn : n = 0 := by omega
          subst hn
          exact hE3 (yb48_0 hv2) r2 hr2 G2 (a1049153.trans hZ)
        · have a1048577 : r2 1048577 = r 1048577 := yas hR List.mem_cons_self
          have a1048640 : r2 1048640 = (r 1048640 + (1 : Int)) := yas hR (List.mem_cons_of_mem _ List.mem_cons_self)
          have a1048704 : r2 1048704 = (r 1048704 + (1 : Int)) := yas hR (List.mem_cons_of_mem _ (List.mem_cons_of_mem _ List.mem_cons_self))
          have a1049153 : r2 1049153 = r 1049153 := yas hR (List.mem_cons_of_mem _ (List.mem_cons_of_mem _ (List.mem_cons_of_mem _ List.mem_cons_self)))
          have fS : ∀ j : Nat, j < 16 → r2 (4194310 + 64 * j) = (bif decide (r 1048960 = (j : Int)) then ((0, -1) : ycV) else (0, r (4194310 + 64 * j))).2 := fun j hj => hR.2.1 _ List.mem_cons_self (4194310, 16, 506) List.mem_cons_self rfl j hj
          have fD : ∀ j : Nat, j < 16 → r2 (4195394 + 64 * j) = (xct r (.branch 0 (.branch 0 (.branch 0 (.branch 0 (.branch 0 (.leaf (0, .add (.var 4195394) (.num 1))) (.leaf (10, .num 4195394))) (.leaf (10, .num 4195394))) (.leaf (10, .num 4195394))) (.leaf (10, .num 4195394))) (.leaf (10, .num 4195394))) j).2 := fun j hj => hR.2.1 _ (List.mem_cons_of_mem _ List.mem_cons_self) (4195394, 16, 505) (List.mem_cons_of_mem _ List.mem_cons_self) rfl j hj
          have fD2 : ∀ s : Nat, s < 8 → s ≠ (S p).toNat → r2 (4195394 + 64 * s) = D s := fun s hs hn => ((fD s (by omega)).trans (yb48_d8 r s hs (by omega))).trans (m5 s hs)
          have t1 : (0 : Int) ≤ r 1048704 ∧ r 1048704 ≤ (6 : Int) := hR.2.2.1 _ (List.mem_cons_of_mem _ List.mem_cons_self)
          have hv2 := yb48a_n hv (by omega) (by decide)
          exact hC r2 w x (f + 1) (yb48u S p (-1)) (fun s => r2 (4195394 + 64 * s)) hr2 G2 (a1049153.trans hZ) ⟨aw, a1048577.trans m2, by omega, fun k hk => yb48_fu (fS k (by omega)) hup rfl (m4 k hk), fun _ _ => rfl, yb48J_step m6 hp (by omega) fD2 (by decide)⟩ (by omega) hv2
      · have hv := yb48w_s hy (by omega)
        have ed : r 4195458 = 0 := (m5 1 (by decide)).trans (by
          have z := m6.2.2.1 p hp (by omega)
          rw [e] at z
          exact z)
        have H1 := xHc (e := .sub (.var 128) (.var 1048960)) (lo := 1) (hi := 16) H (show (1 : Int) ≤ (r 128 - r 1048960) by omega) (show (r 128 - r 1048960) ≤ (16 : Int) by omega)
        have H2 := xHc (e := .var 1049024) (lo := 0) (hi := 0) H1 (show (0 : Int) ≤ r 1049024 by omega) (show r 1049024 ≤ (0 : Int) by omega)
        have H3 := xHc (e := .pow (.sub (.num 4194310) (.var 1048960)) 0) (lo := 1) (hi := 1) H2 (show (1 : Int) ≤ r (4194310 + 64 * (r 1048960).toNat) by omega) (show r (4194310 + 64 * (r 1048960).toNat) ≤ (1 : Int) by omega)
        have H4 := xHc (e := .var 4195458) (lo := 0) (hi := 0) H3 (show (0 : Int) ≤ r 4195458 by omega) (show r 4195458 ≤ (0 : Int) by omega)
        refine yz_run hL yq48_V5s1 hr H4 (xcut_s fun c hc r2 G2 hR => ?_)
        have hr2 : yzr L xs r2 := fun i hi => by rw [hR.2.2.2 i hi]; exact hr i hi
        have aw : r2 128 = w := (hR.2.2.2 128 (by decide)).trans m1
        simp only [List.mem_cons, List.not_mem_nil, or_false] at hc
        rcases hc with rfl | rfl | rfl
        · have a1048640 : r2 1048640 = (r 1048640 + (1 : Int)) := yas hR List.mem_cons_self
          have a1048704 : r2 1048704 = (r 1048704 + (1 : Int)) := yas hR (List.mem_cons_of_mem _ List.mem_cons_self)
          have a1049153 : r2 1049153 = r 1049153 := yas hR (List.mem_cons_of_mem _ (List.mem_cons_of_mem _ List.mem_cons_self))
          have fS : ∀ j : Nat, j < 16 → r2 (4194310 + 64 * j) = (bif decide (r 1048960 = (j : Int)) then ((0, -1) : ycV) else (0, r (4194310 + 64 * j))).2 := fun j hj => hR.2.1 _ List.mem_cons_self (4194310, 16, 506) List.mem_cons_self rfl j hj
          have fD : ∀ j : Nat, j < 16 → r2 (4195394 + 64 * j) = (xct r (.branch 0 (.leaf (10, .num 4195394)) (.branch 0 (.branch 0 (.branch 0 (.branch 0 (.leaf (0, .add (.var 4195458) (.num 1))) (.leaf (10, .num 4195394))) (.leaf (10, .num 4195394))) (.leaf (10, .num 4195394))) (.leaf (10, .num 4195394)))) j).2 := fun j hj => hR.2.1 _ (List.mem_cons_of_mem _ List.mem_cons_self) (4195394, 16, 505) (List.mem_cons_of_mem _ List.mem_cons_self) rfl j hj
          have fD2 : ∀ s : Nat, s < 8 → s ≠ (S p).toNat → r2 (4195394 + 64 * s) = D s := fun s hs hn => ((fD s (by omega)).trans (yb48_d9 r s hs (by omega))).trans (m5 s hs)
          have t0 : (7 : Int) ≤ r 1048704 ∧ r 1048704 ≤ (7 : Int) := hR.2.2.1 _ List.mem_cons_self
          exact hE0 (yb48a_e hv (by omega)) r2 hr2 G2 (a1049153.trans hZ)
        · have a1048640 : r2 1048640 = (r 1048640 + (1 : Int)) := yas hR List.mem_cons_self
          have a1048704 : r2 1048704 = (r 1048704 + (1 : Int)) := yas hR (List.mem_cons_of_mem _ List.mem_cons_self)
          have a1049153 : r2 1049153 = r 1049153 := yas hR (List.mem_cons_of_mem _ (List.mem_cons_of_mem _ List.mem_cons_self))
          have fS : ∀ j : Nat, j < 16 → r2 (4194310 + 64 * j) = (bif decide (r 1048960 = (j : Int)) then ((0, -1) : ycV) else (0, r (4194310 + 64 * j))).2 := fun j hj => hR.2.1 _ List.mem_cons_self (4194310, 16, 506) List.mem_cons_self rfl j hj
          have fD : ∀ j : Nat, j < 16 → r2 (4195394 + 64 * j) = (xct r (.branch 0 (.leaf (10, .num 4195394)) (.branch 0 (.branch 0 (.branch 0 (.branch 0 (.leaf (0, .add (.var 4195458) (.num 1))) (.leaf (10, .num 4195394))) (.leaf (10, .num 4195394))) (.leaf (10, .num 4195394))) (.leaf (10, .num 4195394)))) j).2 := fun j hj => hR.2.1 _ (List.mem_cons_of_mem _ List.mem_cons_self) (4195394, 16, 505) (List.mem_cons_of_mem _ List.mem_cons_self) rfl j hj
          have fD2 : ∀ s : Nat, s < 8 → s ≠ (S p).toNat → r2 (4195394 + 64 * s) = D s := fun s hs hn => ((fD s (by omega)).trans (yb48_d9 r s hs (by omega))).trans (m5 s hs)
          have t1 : (0 : Int) ≤ r 1048704 ∧ r 1048704 ≤ (6 : Int) := hR.2.2.1 _ (List.mem_cons_of_mem _ List.mem_cons_self)
          have hv2 := yb48a_n hv (by omega) (by decide)
          have t0 : (19999 : Int) ≤ r 1048640 ∧ r 1048640 ≤ (19999 : Int) := hR.2.2.1 _ List.mem_cons_self
          have hn : n = 0 := by omega
          subst hn
          exact hE3 (yb48_0 hv2) r2 hr2 G2 (a1049153.trans hZ)
        · have a1048577 : r2 1048577 = r 1048577 := yas hR List.mem_cons_self
          have a1048640 : r2 1048640 = (r 1048640 + (1 : Int)) := yas hR (List.mem_cons_of_mem _ List.mem_cons_self)
          have a1048704 : r2 1048704 = (r 1048704 + (1 : Int)) := yas hR (List.mem_cons_of_mem _ (List.mem_cons_of_mem _ List.mem_cons_self))
          have a1049153 : r2 1049153 = r 1049153 := yas hR (List.mem_cons_of_mem _ (List.mem_cons_of_mem _ (List.mem_cons_of_mem _ List.mem_cons_self)))
          have fS : ∀ j : Nat, j < 16 → r2 (4194310 + 64 * j) = (bif decide (r 1048960 = (j : Int)) then ((0, -1) : ycV) else (0, r (4194310 + 64 * j))).2 := fun j hj => hR.2.1 _ List.mem_cons_self (4194310, 16, 506) List.mem_cons_self rfl j hj
          have fD : ∀ j : Nat, j < 16 → r2 (4195394 + 64 * j) = (xct r (.branch 0 (.leaf (10, .num 4195394)) (.branch 0 (.branch 0 (.branch 0 (.branch 0 (.leaf (0, .add (.var 4195458) (.num 1))) (.leaf (10, .num 4195394))) (.leaf (10, .num 4195394))) (.leaf (10, .num 4195394))) (.leaf (10, .num 4195394)))) j).2 := fun j hj => hR.2.1 _ (List.mem_cons_of_mem _ List.mem_cons_self) (4195394, 16, 505) (List.mem_cons_of_mem _ List.mem_cons_self) rfl j hj
          have fD2 : ∀ s : Nat, s < 8 → s ≠ (S p).toNat → r2 (4195394 + 64 * s) = D s := fun s hs hn => ((fD s (by omega)).trans (yb48_d9 r s hs (by omega))).trans (m5 s hs)
          have t1 : (0 : Int) ≤ r 1048704 ∧ r 1048704 ≤ (6 : Int) := hR.2.2.1 _ (List.mem_cons_of_mem _ List.mem_cons_self)
          have hv2 := yb48a_n hv (by omega) (by decide)
          exact hC r2 w x (f + 1) (yb48u S p (-1)) (fun s => r2 (4195394 + 64 * s)) hr2 G2 (a1049153.trans hZ) ⟨aw, a1048577.trans m2, by omega, fun k hk => yb48_fu (fS k (by omega)) hup rfl (m4 k hk), fun _ _ => rfl, yb48J_step m6 hp (by omega) fD2 (by decide)⟩ (by omega) hv2
      · have hv := yb48w_s hy (by omega)
        have ed : r 4195522 = 0 := (m5 2 (by decide)).trans (by
          have z := m6.2.2.1 p hp (by omega)
          rw [e] at z
          exact z)
        have H1 := xHc (e := .sub (.var 128) (.var 1048960)) (lo := 1) (hi := 16) H (show (1 : Int) ≤ (r 128 - r 1048960) by omega) (show (r 128 - r 1048960) ≤ (16 : Int) by omega)
        have H2 := xHc (e := .var 1049024) (lo := 0) (hi := 0) H1 (show (0 : Int) ≤ r 1049024 by omega) (show r 1049024 ≤ (0 : Int) by omega)
        have H3 := xHc (e := .pow (.sub (.num 4194310) (.var 1048960)) 0) (lo := 2) (hi := 2) H2 (show (2 : Int) ≤ r (4194310 + 64 * (r 1048960).toNat) by omega) (show r (4194310 + 64 * (r 1048960).toNat) ≤ (2 : Int) by omega)
        have H4 := xHc (e := .var 4195522) (lo := 0) (hi := 0) H3 (show (0 : Int) ≤ r 4195522 by omega) (show r 4195522 ≤ (0 : Int) by omega)
        refine yz_run hL yq48_V5s2 hr H4 (xcut_s fun c hc r2 G2 hR => ?_)
        have hr2 : yzr L xs r2 := fun i hi => by rw [hR.2.2.2 i hi]; exact hr i hi
        have aw : r2 128 = w := (hR.2.2.2 128 (by decide)).trans m1
        simp only [List.mem_cons, List.not_mem_nil, or_false] at hc
        rcases hc with rfl | rfl | rfl
        · have a1048640 : r2 1048640 = (r 1048640 + (1 : Int)) := yas hR List.mem_cons_self
          have a1048704 : r2 1048704 = (r 1048704 + (1 : Int)) := yas hR (List.mem_cons_of_mem _ List.mem_cons_self)
          have a1049153 : r2 1049153 = r 1049153 := yas hR (List.mem_cons_of_mem _ (List.mem_cons_of_mem _ List.mem_cons_self))
          have fS : ∀ j : Nat, j < 16 → r2 (4194310 + 64 * j) = (bif decide (r 1048960 = (j : Int)) then ((0, -1) : ycV) else (0, r (4194310 + 64 * j))).2 := fun j hj => hR.2.1 _ List.mem_cons_self (4194310, 16, 506) List.mem_cons_self rfl j hj
          have fD : ∀ j : Nat, j < 16 → r2 (4195394 + 64 * j) = (xct r (.branch 0 (.branch 0 (.leaf (10, .num 4195394)) (.branch 0 (.branch 0 (.branch 0 (.leaf (0, .add (.var 4195522) (.num 1))) (.leaf (10, .num 4195394))) (.leaf (10, .num 4195394))) (.leaf (10, .num 4195394)))) (.leaf (10, .num 4195394))) j).2 := fun j hj => hR.2.1 _ (List.mem_cons_of_mem _ List.mem_cons_self) (4195394, 16, 505) (List.mem_cons_of_mem _ List.mem_cons_self) rfl j hj
          have fD2 : ∀ s : Nat, s < 8 → s ≠ (S p).toNat → r2 (4195394 + 64 * s) = D s := fun s hs hn => ((fD s (by omega)).trans (yb48_d10 r s hs (by omega))).trans (m5 s hs)
          have t0 : (7 : Int) ≤ r 1048704 ∧ r 1048704 ≤ (7 : Int) := hR.2.2.1 _ List.mem_cons_self
          exact hE0 (yb48a_e hv (by omega)) r2 hr2 G2 (a1049153.trans hZ)
        · have a1048640 : r2 1048640 = (r 1048640 + (1 : Int)) := yas hR List.mem_cons_self
          have a1048704 : r2 1048704 = (r 1048704 + (1 : Int)) := yas hR (List.mem_cons_of_mem _ List.mem_cons_self)
          have a1049153 : r2 1049153 = r 1049153 := yas hR (List.mem_cons_of_mem _ (List.mem_cons_of_mem _ List.mem_cons_self))
          have fS : ∀ j : Nat, j < 16 → r2 (4194310 + 64 * j) = (bif decide (r 1048960 = (j : Int)) then ((0, -1) : ycV) else (0, r (4194310 + 64 * j))).2 := fun j hj => hR.2.1 _ List.mem_cons_self (4194310, 16, 506) List.mem_cons_self rfl j hj
          have fD : ∀ j : Nat, j < 16 → r2 (4195394 + 64 * j) = (xct r (.branch 0 (.branch 0 (.leaf (10, .num 4195394)) (.branch 0 (.branch 0 (.branch 0 (.leaf (0, .add (.var 4195522) (.num 1))) (.leaf (10, .num 4195394))) (.leaf (10, .num 4195394))) (.leaf (10, .num 4195394)))) (.leaf (10, .num 4195394))) j).2 := fun j hj => hR.2.1 _ (List.mem_cons_of_mem _ List.mem_cons_self) (4195394, 16, 505) (List.mem_cons_of_mem _ List.mem_cons_self) rfl j hj
          have fD2 : ∀ s : Nat, s < 8 → s ≠ (S p).toNat → r2 (4195394 + 64 * s) = D s := fun s hs hn => ((fD s (by omega)).trans (yb48_d10 r s hs (by omega))).trans (m5 s hs)
          have t1 : (0 : Int) ≤ r 1048704 ∧ r 1048704 ≤ (6 : Int) := hR.2.2.1 _ (List.mem_cons_of_mem _ List.mem_cons_self)
          have hv2 := yb48a_n hv (by omega) (by decide)
          have t0 : (19999 : Int) ≤ r 1048640 ∧ r 1048640 ≤ (19999 : Int) := hR.2.2.1 _ List.mem_cons_self
          have hn : n = 0 := by omega
          subst hn
          exact hE3 (yb48_0 hv2) r2 hr2 G2 (a1049153.trans hZ)
        · have a1048577 : r2 1048577 = r 1048577 := yas hR List.mem_cons_self
          have a1048640 : r2 1048640 = (r 1048640 + (1 : Int)) := yas hR (List.mem_cons_of_mem _ List.mem_cons_self)
          have a1048704 : r2 1048704 = (r 1048704 + (1 : Int)) := yas hR (List.mem_cons_of_mem _ (List.mem_cons_of_mem _ List.mem_cons_self))
          have a1049153 : r2 1049153 = r 1049153 := yas hR (List.mem_cons_of_mem _ (List.mem_cons_of_mem _ (List.mem_cons_of_mem _ List.mem_cons_self)))
          have fS : ∀ j : Nat, j < 16 → r2 (4194310 + 64 * j) = (bif decide (r 1048960 = (j : Int)) then ((0, -1) : ycV) else (0, r (4194310 + 64 * j))).2 := fun j hj => hR.2.1 _ List.mem_cons_self (4194310, 16, 506) List.mem_cons_self rfl j hj
          have fD : ∀ j : Nat, j < 16 → r2 (4195394 + 64 * j) = (xct r (.branch 0 (.branch 0 (.leaf (10, .num 4195394)) (.branch 0 (.branch 0 (.branch 0 (.leaf (0, .add (.var 4195522) (.num 1))) (.leaf (10, .num 4195394))) (.leaf (10, .num 4195394))) (.leaf (10, .num 4195394)))) (.leaf (10, .num 4195394))) j).2 := fun j hj => hR.2.1 _ (List.mem_cons_of_mem _ List.mem_cons_self) (4195394, 16, 505) (List.mem_cons_of_mem _ List.mem_cons_self) rfl j hj
          have fD2 : ∀ s : Nat, s < 8 → s ≠ (S p).toNat → r2 (4195394 + 64 * s) = D s := fun s hs hn => ((fD s (by omega)).trans (yb48_d10 r s hs (by omega))).trans (m5 s hs)
          have t1 : (0 : Int) ≤ r 1048704 ∧ r 1048704 ≤ (6 : Int) := hR.2.2.1 _ (List.mem_cons_of_mem _ List.mem_cons_self)
          have hv2 := yb48a_n hv (by omega) (by decide)
          exact hC r2 w x (f + 1) (yb48u S p (-1)) (fun s => r2 (4195394 + 64 * s)) hr2 G2 (a1049153.trans hZ) ⟨aw, a1048577.trans m2, by omega, fun k hk => yb48_fu (fS k (by omega)) hup rfl (m4 k hk), fun _ _ => rfl, yb48J_step m6 hp (by omega) fD2 (by decide)⟩ (by omega) hv2
    · have H1 := xHc (e := .sub (.var 128) (.var 1048960)) (lo := 2) (hi := 16) H (show (2 : Int) ≤ (r 128 - r 1048960) by omega) (show (r 128 - r 1048960) ≤ (16 : Int) by omega)
      have H2 := xHc (e := .var 1049024) (lo := 1) (hi := 15) H1 (show (1 : Int) ≤ r 1049024 by omega) (show r 1049024 ≤ (15 : Int) by omega)
      refine yz_run hL yq48_V5n hr H2 (xcut_s fun c hc r2 G2 hR => ?_)
      have hr2 : yzr L xs r2 := fun i hi => by rw [hR.2.2.2 i hi]; exact hr i hi
      have aw : r2 128 = w := (hR.2.2.2 128 (by decide)).trans m1
      rw [List.mem_singleton] at hc
      subst hc
      have a1048577 : r2 1048577 = r 1048577 := yas hR List.mem_cons_self
      have a1049024 : r2 1049024 = (r 1049024 + (-1 : Int)) := yas hR (List.mem_cons_of_mem _ List.mem_cons_self)
      have a1048960 : r2 1048960 = (r 1048960 + (1 : Int)) := yas hR (List.mem_cons_of_mem _ (List.mem_cons_of_mem _ List.mem_cons_self))
      have a1048640 : r2 1048640 = r 1048640 := yas hR (List.mem_cons_of_mem _ (List.mem_cons_of_mem _ (List.mem_cons_of_mem _ List.mem_cons_self)))
      have a1048704 : r2 1048704 = r 1048704 := yas hR (List.mem_cons_of_mem _ (List.mem_cons_of_mem _ (List.mem_cons_of_mem _ (List.mem_cons_of_mem _ List.mem_cons_self))))
      have a1049153 : r2 1049153 = r 1049153 := yas hR (List.mem_cons_of_mem _ (List.mem_cons_of_mem _ (List.mem_cons_of_mem _ (List.mem_cons_of_mem _ (List.mem_cons_of_mem _ List.mem_cons_self)))))
      have fS : ∀ j : Nat, j < 16 → r2 (4194310 + 64 * j) = r (4194310 + 64 * j) := fun j hj => hR.2.1 _ List.mem_cons_self (4194310, 16, 506) List.mem_cons_self rfl j hj
      have fD : ∀ j : Nat, j < 16 → r2 (4195394 + 64 * j) = r (4195394 + 64 * j) := fun j hj => hR.2.1 _ (List.mem_cons_of_mem _ List.mem_cons_self) (4195394, 16, 505) (List.mem_cons_of_mem _ List.mem_cons_self) rfl j hj
      exact ih r2 hr2 G2 (a1049153.trans hZ) ⟨aw, a1048577.trans m2, a1048704.trans m3, fun k hk => (fS k (by omega)).trans (m4 k hk), fun s hs => (fD s (by omega)).trans (m5 s hs), m6⟩ (by omega) (by omega) (by omega)
theorem y48_R6 {L : Nat} {xs : Nat → Int32} (hL : L ≤ 3584) {y0 : Int} {n : Nat} (hW : yb48V L xs (yZ1 y0) y0 yt48_V6 yF48_V6 n 6) : yb48C L xs (yZ1 y0) y0 yt48_R6 yF48_R6 (n + 1) 6 := by
  intro r w x f S D hr H hZ hM hT hy
  obtain ⟨m1, m2, m3, m4, m5, m6⟩ := hM
  have hw : 1 ≤ r 128 ∧ r 128 ≤ 16 := xbd_s H (e := .var 128) (lo := 1) (hi := 16) (by decide +kernel)
  have hw2 : 1 ≤ w ∧ w ≤ 16 := by omega
  have H1 := xHc (e := .sub (.var 128) (.pow (.add (.pow (.add (.pow (.add (.pow (.add (.var 1048577) (.num 6364136223846793005)) 38) (.num 1442695040888963407)) 36) (.num 33)) 51) (.var 128)) 40)) (lo := 1) (hi := 16) H (by rw [xden_sub, xden_var, yb48P_d, m1, m2]; exact (yb48_w1 (yb48P_r hw2.1 hw2.2) hw2.2).1) (by rw [xden_sub, xden_var, yb48P_d, m1, m2]; exact (yb48_w1 (yb48P_r hw2.1 hw2.2) hw2.2).2)
  refine yz_run hL yq48_R6 hr H1 (xcut_s fun c hc r2 G2 hR => ?_)
  have hr2 : yzr L xs r2 := fun i hi => by rw [hR.2.2.2 i hi]; exact hr i hi
  have aw : r2 128 = w := (hR.2.2.2 128 (by decide)).trans m1
  rw [List.mem_singleton] at hc
  subst hc
  have a1048960 : r2 1048960 = (0 : Int) := yas hR (List.mem_cons_of_mem _ (List.mem_cons_of_mem _ List.mem_cons_self))
  have a1048640 : r2 1048640 = r 1048640 := yas hR (List.mem_cons_of_mem _ (List.mem_cons_of_mem _ (List.mem_cons_of_mem _ List.mem_cons_self)))
  have a1048704 : r2 1048704 = r 1048704 := yas hR (List.mem_cons_of_mem _ (List.mem_cons_of_mem _ (List.mem_cons_of_mem _ (List.mem_cons_of_mem _ List.mem_cons_self))))
  have a1049153 : r2 1049153 = r 1049153 := yas hR (List.mem_cons_of_mem _ (List.mem_cons_of_mem _ (List.mem_cons_of_mem _ (List.mem_cons_of_mem _ (List.mem_cons_of_mem _ List.mem_cons_self)))))
  have fS : ∀ j : Nat, j < 16 → r2 (4194310 + 64 * j) = r (4194310 + 64 * j) := fun j hj => hR.2.1 _ List.mem_cons_self (4194310, 16, 506) List.mem_cons_self rfl j hj
  have fD : ∀ j : Nat, j < 16 → r2 (4195394 + 64 * j) = r (4195394 + 64 * j) := fun j hj => hR.2.1 _ (List.mem_cons_of_mem _ List.mem_cons_self) (4195394, 16, 505) (List.mem_cons_of_mem _ List.mem_cons_self) rfl j hj
  have o1 := hT
  have gS : ∀ k : Nat, (k : Int) < w → r2 (4194310 + 64 * k) = S k := fun k hk => (fS k (by omega)).trans (m4 k hk)
  have gD : ∀ s : Nat, s < 8 → r2 (4195394 + 64 * s) = D s := fun s hs => (fD s (by omega)).trans (m5 s hs)
  have gT : r2 1048640 + (n : Int) + 1 = 20000 := by omega
  have a1048577 : r2 1048577 = yb48X (r 1048577) := (yas hR List.mem_cons_self).trans (yb48X_d r)
  have a1049024 : r2 1049024 = yb48P (r 128) (r 1048577) := (yas hR (List.mem_cons_of_mem _ List.mem_cons_self)).trans (yb48P_d r)
  exact hW r2 w (yb48X x) f S D (yb48P w x).toNat hr2 G2 (a1049153.trans hZ) ⟨aw, by rw [a1048577, m2], a1048704.trans m3, gS, gD, m6⟩ gT (yb48_w2 (yb48P_r hw2.1 hw2.2)) (by rw [a1049024, a1048960, m1, m2]; exact yb48_w4 (yb48P_r hw2.1 hw2.2)) (yb48_t hy)
theorem y48_V6 {L : Nat} {xs : Nat → Int32} (hL : L ≤ 3584) {y0 : Int} {n : Nat} (hC : yb48C L xs (yZ1 y0) y0 yt48_R6 yF48_R6 n 6) (hC1 : yb48C L xs (yZ1 y0) y0 yt48_R5 yF48_R5 n 5) (hE0 : yb48E L xs (yZ1 y0) y0 (0) yt48_X0 yF48_X0) (hE3 : yb48E L xs (yZ1 y0) y0 (-3) yt48_X3 yF48_X3) : yb48V L xs (yZ1 y0) y0 yt48_V6 yF48_V6 n 6 := by
  intro r w x f S D p hr H hZ hM hT hp hP hy
  suffices main : ∀ d : Nat, ∀ r, yzr L xs r → xH r yF48_V6 → (yZ1 y0) r → yb48M r w 6 x f S D → r 1048640 + (n : Int) + 1 = 20000 → r 1049024 + r 1048960 = (p : Int) → r 1049024 < (d : Int) → xGl (yfT (ykold L xs)) r yzP yt48_V6 from
    main 16 r hr H hZ hM hT hP (by
      have hPb : 0 ≤ r 1049024 ∧ r 1049024 ≤ 15 := xbd_s H (e := .var 1049024) (lo := 0) (hi := 15) (by decide +kernel)
      omega)
  intro d
  induction d with
  | zero =>
    intro r hr H hZ hM hT hP hd
    have hPb : 0 ≤ r 1049024 ∧ r 1049024 ≤ 15 := xbd_s H (e := .var 1049024) (lo := 0) (hi := 15) (by decide +kernel)
    omega
  | succ d ih =>
    intro r hr H hZ hM hT hP hd
    have hPb : 0 ≤ r 1049024 ∧ r 1049024 ≤ 15 := xbd_s H (e := .var 1049024) (lo := 0) (hi := 15) (by decide +kernel)
    obtain ⟨m1, m2, m3, m4, m5, m6⟩ := hM
    have hw : 1 ≤ r 128 ∧ r 128 ≤ 16 := xbd_s H (e := .var 128) (lo := 1) (hi := 16) (by decide +kernel)
    have hu : 0 ≤ r 1048960 ∧ r 1048960 ≤ 15 := xbd_s H (e := .var 1048960) (lo := 0) (hi := 15) (by decide +kernel)
    have hf : 0 ≤ r 1048704 ∧ r 1048704 ≤ 7 := xbd_s H (e := .var 1048704) (lo := 0) (hi := 7) (by decide +kernel)
    by_cases hup0 : r 1049024 = 0
    · have hup : r 1048960 = (p : Int) := by omega
      have es : r (4194310 + 64 * (r 1048960).toNat) = S p := by
        have e0 : (r 1048960).toNat = p := by omega
        rw [e0]
        exact m4 p hp
      have j1 := m6.1 p hp
      have e : S p = -1 ∨ S p = 0 ∨ S p = 1 := by omega
      rcases e with e | e | e
      · have hv := yb48w_t (q := 5) hy e
        have hv2 := yb48a_n hv (by omega) (by decide)
        have H1 := xHc (e := .sub (.var 128) (.var 1048960)) (lo := 1) (hi := 16) H (show (1 : Int) ≤ (r 128 - r 1048960) by omega) (show (r 128 - r 1048960) ≤ (16 : Int) by omega)
        have H2 := xHc (e := .var 1049024) (lo := 0) (hi := 0) H1 (show (0 : Int) ≤ r 1049024 by omega) (show r 1049024 ≤ (0 : Int) by omega)
        have H3 := xHc (e := .pow (.sub (.num 4194310) (.var 1048960)) 0) (lo := -1) (hi := -1) H2 (show (-1 : Int) ≤ r (4194310 + 64 * (r 1048960).toNat) by omega) (show r (4194310 + 64 * (r 1048960).toNat) ≤ (-1 : Int) by omega)
        refine yz_run hL yq48_V6t hr H3 (xcut_s fun c hc r2 G2 hR => ?_)
        have hr2 : yzr L xs r2 := fun i hi => by rw [hR.2.2.2 i hi]; exact hr i hi
        have aw : r2 128 = w := (hR.2.2.2 128 (by decide)).trans m1
        simp only [List.mem_cons, List.not_mem_nil, or_false] at hc
        rcases hc with rfl | rfl
        · have a1048640 : r2 1048640 = (r 1048640 + (1 : Int)) := yas hR List.mem_cons_self
          have a1048704 : r2 1048704 = r 1048704 := yas hR (List.mem_cons_of_mem _ List.mem_cons_self)
          have a1049153 : r2 1049153 = r 1049153 := yas hR (List.mem_cons_of_mem _ (List.mem_cons_of_mem _ List.mem_cons_self))
          have fS : ∀ j : Nat, j < 16 → r2 (4194310 + 64 * j) = (bif decide (r 1048960 = (j : Int)) then ((0, 2) : ycV) else (0, r (4194310 + 64 * j))).2 := fun j hj => hR.2.1 _ List.mem_cons_self (4194310, 16, 506) List.mem_cons_self rfl j hj
          have fD : ∀ j : Nat, j < 16 → r2 (4195394 + 64 * j) = r (4195394 + 64 * j) := fun j hj => hR.2.1 _ (List.mem_cons_of_mem _ List.mem_cons_self) (4195394, 16, 505) (List.mem_cons_of_mem _ List.mem_cons_self) rfl j hj
          have t0 : (19999 : Int) ≤ r 1048640 ∧ r 1048640 ≤ (19999 : Int) := hR.2.2.1 _ List.mem_cons_self
          have hn : n = 0 := by omega
          subst hn
          exact hE3 (yb48_0 hv2) r2 hr2 G2 (a1049153.trans hZ)
        · have a1048577 : r2 1048577 = r 1048577 := yas hR List.mem_cons_self
          have a1048640 : r2 1048640 = (r 1048640 + (1 : Int)) := yas hR (List.mem_cons_of_mem _ List.mem_cons_self)
          have a1048704 : r2 1048704 = r 1048704 := yas hR (List.mem_cons_of_mem _ (List.mem_cons_of_mem _ List.mem_cons_self))
          have a1049153 : r2 1049153 = r 1049153 := yas hR (List.mem_cons_of_mem _ (List.mem_cons_of_mem _ (List.mem_cons_of_mem _ List.mem_cons_self)))
          have fS : ∀ j : Nat, j < 16 → r2 (4194310 + 64 * j) = (bif decide (r 1048960 = (j : Int)) then ((0, 2) : ycV) else (0, r (4194310 + 64 * j))).2 := fun j hj => hR.2.1 _ List.mem_cons_self (4194310, 16, 506) List.mem_cons_self rfl j hj
          have fD : ∀ j : Nat, j < 16 → r2 (4195394 + 64 * j) = r (4195394 + 64 * j) := fun j hj => hR.2.1 _ (List.mem_cons_of_mem _ List.mem_cons_self) (4195394, 16, 505) (List.mem_cons_of_mem _ List.mem_cons_self) rfl j hj
          exact hC1 r2 w x f (yb48u S p (8 - ((5 + 1 : Nat) : Int))) D hr2 G2 (a1049153.trans hZ) ⟨aw, a1048577.trans m2, a1048704.trans m3, fun k hk => yb48_fu (fS k (by omega)) hup (by decide) (m4 k hk), fun s hs => (fD s (by omega)).trans (m5 s hs), yb48J_take m6 hp (by decide)⟩ (by omega) hv2
      · have hv := yb48w_s hy (by omega)
        have ed : r 4195394 = 0 := (m5 0 (by decide)).trans (by
          have z := m6.2.2.1 p hp (by omega)
          rw [e] at z
          exact z)
        have H1 := xHc (e := .sub (.var 128) (.var 1048960)) (lo := 1) (hi := 16) H (show (1 : Int) ≤ (r 128 - r 1048960) by omega) (show (r 128 - r 1048960) ≤ (16 : Int) by omega)
        have H2 := xHc (e := .var 1049024) (lo := 0) (hi := 0) H1 (show (0 : Int) ≤ r 1049024 by omega) (show r 1049024 ≤ (0 : Int) by omega)
        have H3 := xHc (e := .pow (.sub (.num 4194310) (.var 1048960)) 0) (lo := 0) (hi := 0) H2 (show (0 : Int) ≤ r (4194310 + 64 * (r 1048960).toNat) by omega) (show r (4194310 + 64 * (r 1048960).toNat) ≤ (0 : Int) by omega)
        have H4 := xHc (e := .var 4195394) (lo := 0) (hi := 0) H3 (show (0 : Int) ≤ r 4195394 by omega) (show r 4195394 ≤ (0 : Int) by omega)
        refine yz_run hL yq48_V6s0 hr H4 (xcut_s fun c hc r2 G2 hR => ?_)
        have hr2 : yzr L xs r2 := fun i hi => by rw [hR.2.2.2 i hi]; exact hr i hi
        have aw : r2 128 = w := (hR.2.2.2 128 (by decide)).trans m1
        simp only [List.mem_cons, List.not_mem_nil, or_false] at hc
        rcases hc with rfl | rfl | rfl
        · have a1048640 : r2 1048640 = (r 1048640 + (1 : Int)) := yas hR List.mem_cons_self
          have a1048704 : r2 1048704 = (r 1048704 + (1 : Int)) := yas hR (List.mem_cons_of_mem _ List.mem_cons_self)
          have a1049153 : r2 1049153 = r 1049153 := yas hR (List.mem_cons_of_mem _ (List.mem_cons_of_mem _ List.mem_cons_self))
          have fS : ∀ j : Nat, j < 16 → r2 (4194310 + 64 * j) = (bif decide (r 1048960 = (j : Int)) then ((0, -1) : ycV) else (0, r (4194310 + 64 * j))).2 := fun j hj => hR.2.1 _ List.mem_cons_self (4194310, 16, 506) List.mem_cons_self rfl j hj
          have fD : ∀ j : Nat, j < 16 → r2 (4195394 + 64 * j) = (xct r (.branch 0 (.branch 0 (.branch 0 (.branch 0 (.branch 0 (.leaf (0, .add (.var 4195394) (.num 1))) (.leaf (10, .num 4195394))) (.leaf (10, .num 4195394))) (.leaf (10, .num 4195394))) (.leaf (10, .num 4195394))) (.leaf (10, .num 4195394))) j).2 := fun j hj => hR.2.1 _ (List.mem_cons_of_mem _ List.mem_cons_self) (4195394, 16, 505) (List.mem_cons_of_mem _ List.mem_cons_self) rfl j hj
          have fD2 : ∀ s : Nat, s < 8 → s ≠ (S p).toNat → r2 (4195394 + 64 * s) = D s := fun s hs hn => ((fD s (by omega)).trans (yb48_d8 r s hs (by omega))).trans (m5 s hs)
          have t0 : (7 : Int) ≤ r 1048704 ∧ r 1048704 ≤ (7 : Int) := hR.2.2.1 _ List.mem_cons_self
          exact hE0 (yb48a_e hv (by omega)) r2 hr2 G2 (a1049153.trans hZ)
        · have a1048640 : r2 1048640 = (r 1048640 + (1 : Int)) := yas hR List.mem_cons_self
          have a1048704 : r2 1048704 = (r 1048704 + (1 : Int)) := yas hR (List.mem_cons_of_mem _ List.mem_cons_self)
          have a1049153 : r2 1049153 = r 1049153 := yas hR (List.mem_cons_of_mem _ (List.mem_cons_of_mem _ List.mem_cons_self))
          have fS : ∀ j : Nat, j < 16 → r2 (4194310 + 64 * j) = (bif decide (r 1048960 = (j : Int)) then ((0, -1) : ycV) else (0, r (4194310 + 64 * j))).2 := fun j hj => hR.2.1 _ List.mem_cons_self (4194310, 16, 506) List.mem_cons_self rfl j hj
          have fD : ∀ j : Nat, j < 16 → r2 (4195394 + 64 * j) = (xct r (.branch 0 (.branch 0 (.branch 0 (.branch 0 (.branch 0 (.leaf (0, .add (.var 4195394) (.num 1))) (.leaf (10, .num 4195394))) (.leaf (10, .num 4195394))) (.leaf (10, .num 4195394))) (.leaf (10, .num 4195394))) (.leaf (10, .num 4195394))) j).2 := fun j hj => hR.2.1 _ (List.mem_cons_of_mem _ List.mem_cons_self) (4195394, 16, 505) (List.mem_cons_of_mem _ List.mem_cons_self) rfl j hj
          have fD2 : ∀ s : Nat, s < 8 → s ≠ (S p).toNat → r2 (4195394 + 64 * s) = D s := fun s hs hn => ((fD s (by omega)).trans (yb48_d8 r s hs (by omega))).trans (m5 s hs)
          have t1 : (0 : Int) ≤ r 1048704 ∧ r 1048704 ≤ (6 : Int) := hR.2.2.1 _ (List.mem_cons_of_mem _ List.mem_cons_self)
          have hv2 := yb48a_n hv (by omega) (by decide)
          have t0 : (19999 : Int) ≤ r 1048640 ∧ r 1048640 ≤ (19999 : Int) := hR.2.2.1 _ List.mem_cons_self
          have hn : n = 0 := by omega
          subst hn
          exact hE3 (yb48_0 hv2) r2 hr2 G2 (a1049153.trans hZ)
        · have a1048577 : r2 1048577 = r 1048577 := yas hR List.mem_cons_self
          have a1048640 : r2 1048640 = (r 1048640 + (1 : Int)) := yas hR (List.mem_cons_of_mem _ List.mem_cons_self)
          have a1048704 : r2 1048704 = (r 1048704 + (1 : Int)) := yas hR (List.mem_cons_of_mem _ (List.mem_cons_of_mem _ List.mem_cons_self))
          have a1049153 : r2 1049153 = r 1049153 := yas hR (List.mem_cons_of_mem _ (List.mem_cons_of_mem _ (List.mem_cons_of_mem _ List.mem_cons_self)))
          have fS : ∀ j : Nat, j < 16 → r2 (4194310 + 64 * j) = (bif decide (r 1048960 = (j : Int)) then ((0, -1) : ycV) else (0, r (4194310 + 64 * j))).2 := fun j hj => hR.2.1 _ List.mem_cons_self (4194310, 16, 506) List.mem_cons_self rfl j hj
          have fD : ∀ j : Nat, j < 16 → r2 (4195394 + 64 * j) = (xct r (.branch 0 (.branch 0 (.branch 0 (.branch 0 (.branch 0 (.leaf (0, .add (.var 4195394) (.num 1))) (.leaf (10, .num 4195394))) (.leaf (10, .num 4195394))) (.leaf (10, .num 4195394))) (.leaf (10, .num 4195394))) (.leaf (10, .num 4195394))) j).2 := fun j hj => hR.2.1 _ (List.mem_cons_of_mem _ List.mem_cons_self) (4195394, 16, 505) (List.mem_cons_of_mem _ List.mem_cons_self) rfl j hj
          have fD2 : ∀ s : Nat, s < 8 → s ≠ (S p).toNat → r2 (4195394 + 64 * s) = D s := fun s hs hn => ((fD s (by omega)).trans (yb48_d8 r s hs (by omega))).trans (m5 s hs)
          have t1 : (0 : Int) ≤ r 1048704 ∧ r 1048704 ≤ (6 : Int) := hR.2.2.1 _ (List.mem_cons_of_mem _ List.mem_cons_self)
          have hv2 := yb48a_n hv (by omega) (by decide)
          exact hC r2 w x (f + 1) (yb48u S p (-1)) (fun s => r2 (4195394 + 64 * s)) hr2 G2 (a1049153.trans hZ) ⟨aw, a1048577.trans m2, by omega, fun k hk => yb48_fu (fS k (by omega)) hup rfl (m4 k hk), fun _ _ => rfl, yb48J_step m6 hp (by omega) fD2 (by decide)⟩ (by omega) hv2
      · have hv := yb48w_s hy (by omega)
        have ed : r 4195458 = 0 := (m5 1 (by decide)).trans (by
          have z := m6.2.2.1 p hp (by omega)
          rw [e] at z
          exact z)
        have H1 := xHc (e := .sub (.var 128) (.var 1048960)) (lo := 1) (hi := 16) H (show (1 : Int) ≤ (r 128 - r 1048960) by omega) (show (r 128 - r 1048960) ≤ (16 : Int) by omega)
        have H2 := xHc (e := .var 1049024) (lo := 0) (hi := 0) H1 (show (0 : Int) ≤ r 1049024 by omega) (show r 1049024 ≤ (0 : Int) by omega)
        have H3 := xHc (e := .pow (.sub (.num 4194310) (.var 1048960)) 0) (lo := 1) (hi := 1) H2 (show (1 : Int) ≤ r (4194310 + 64 * (r 1048960).toNat) by omega) (show r (4194310 + 64 * (r 1048960).toNat) ≤ (1 : Int) by omega)
        have H4 := xHc (e := .var 4195458) (lo := 0) (hi := 0) H3 (show (0 : Int) ≤ r 4195458 by omega) (show r 4195458 ≤ (0 : Int) by omega)
        refine yz_run hL yq48_V6s1 hr H4 (xcut_s fun c hc r2 G2 hR => ?_)
        have hr2 : yzr L xs r2 := fun i hi => by rw [hR.2.2.2 i hi]; exact hr i hi
        have aw : r2 128 = w := (hR.2.2.2 128 (by decide)).trans m1
        simp only [List.mem_cons, List.not_mem_nil, or_false] at hc
        rcases hc with rfl | rfl | rfl
        · have a1048640 : r2 1048640 = (r 1048640 + (1 : Int)) := yas hR List.mem_cons_self
          have a1048704 : r2 1048704 = (r 1048704 + (1 : Int)) := yas hR (List.mem_cons_of_mem _ List.mem_cons_self)
          have a1049153 : r2 1049153 = r 1049153 := yas hR (List.mem_cons_of_mem _ (List.mem_cons_of_mem _ List.mem_cons_self))
          have fS : ∀ j : Nat, j < 16 → r2 (4194310 + 64 * j) = (bif decide (r 1048960 = (j : Int)) then ((0, -1) : ycV) else (0, r (4194310 + 64 * j))).2 := fun j hj => hR.2.1 _ List.mem_cons_self (4194310, 16, 506) List.mem_cons_self rfl j hj
          have fD : ∀ j : Nat, j < 16 → r2 (4195394 + 64 * j) = (xct r (.branch 0 (.leaf (10, .num 4195394)) (.branch 0 (.branch 0 (.branch 0 (.branch 0 (.leaf (0, .add (.var 4195458) (.num 1))) (.leaf (10, .num 4195394))) (.leaf (10, .num 4195394))) (.leaf (10, .num 4195394))) (.leaf (10, .num 4195394)))) j).2 := fun j hj => hR.2.1 _ (List.mem_cons_of_mem _ List.mem_cons_self) (4195394, 16, 505) (List.mem_cons_of_mem _ List.mem_cons_self) rfl j hj
          have fD2 : ∀ s : Nat, s < 8 → s ≠ (S p).toNat → r2 (4195394 + 64 * s) = D s := fun s hs hn => ((fD s (by omega)).trans (yb48_d9 r s hs (by omega))).trans (m5 s hs)
          have t0 : (7 : Int) ≤ r 1048704 ∧ r 1048704 ≤ (7 : Int) := hR.2.2.1 _ List.mem_cons_self
          exact hE0 (yb48a_e hv (by omega)) r2 hr2 G2 (a1049153.trans hZ)
        · have a1048640 : r2 1048640 = (r 1048640 + (1 : Int)) := yas hR List.mem_cons_self
          have a1048704 : r2 1048704 = (r 1048704 + (1 : Int)) := yas hR (List.mem_cons_of_mem _ List.mem_cons_self)
          have a1049153 : r2 1049153 = r 1049153 := yas hR (List.mem_cons_of_mem _ (List.mem_cons_of_mem _ List.mem_cons_self))
          have fS : ∀ j : Nat, j < 16 → r2 (4194310 + 64 * j) = (bif decide (r 1048960 = (j : Int)) then ((0, -1) : ycV) else (0, r (4194310 + 64 * j))).2 := fun j hj => hR.2.1 _ List.mem_cons_self (4194310, 16, 506) List.mem_cons_self rfl j hj
          have fD : ∀ j : Nat, j < 16 → r2 (4195394 + 64 * j) = (xct r (.branch 0 (.leaf (10, .num 4195394)) (.branch 0 (.branch 0 (.branch 0 (.branch 0 (.leaf (0, .add (.var 4195458) (.num 1))) (.leaf (10, .num 4195394))) (.leaf (10, .num 4195394))) (.leaf (10, .num 4195394))) (.leaf (10, .num 4195394)))) j).2 := fun j hj => hR.2.1 _ (List.mem_cons_of_mem _ List.mem_cons_self) (4195394, 16, 505) (List.mem_cons_of_mem _ List.mem_cons_self) rfl j hj
          have fD2 : ∀ s : Nat, s < 8 → s ≠ (S p).toNat → r2 (4195394 + 64 * s) = D s := fun s hs hn => ((fD s (by omega)).trans (yb48_d9 r s hs (by omega))).trans (m5 s hs)
          have t1 : (0 : Int) ≤ r 1048704 ∧ r 1048704 ≤ (6 : Int) := hR.2.2.1 _ (List.mem_cons_of_mem _ List.mem_cons_self)
          have hv2 := yb48a_n hv (by omega) (by decide)
          have t0 : (19999 : Int) ≤ r 1048640 ∧ r 1048640 ≤ (19999 : Int) := hR.2.2.1 _ List.mem_cons_self
          have hn : n = 0 := by omega
          subst hn
          exact hE3 (yb48_0 hv2) r2 hr2 G2 (a1049153.trans hZ)
        · have a1048577 : r2 1048577 = r 1048577 := yas hR List.mem_cons_self
          have a1048640 : r2 1048640 = (r 1048640 + (1 : Int)) := yas hR (List.mem_cons_of_mem _ List.mem_cons_self)
          have a1048704 : r2 1048704 = (r 1048704 + (1 : Int)) := yas hR (List.mem_cons_of_mem _ (List.mem_cons_of_mem _ List.mem_cons_self))
          have a1049153 : r2 1049153 = r 1049153 := yas hR (List.mem_cons_of_mem _ (List.mem_cons_of_mem _ (List.mem_cons_of_mem _ List.mem_cons_self)))
          have fS : ∀ j : Nat, j < 16 → r2 (4194310 + 64 * j) = (bif decide (r 1048960 = (j : Int)) then ((0, -1) : ycV) else (0, r (4194310 + 64 * j))).2 := fun j hj => hR.2.1 _ List.mem_cons_self (4194310, 16, 506) List.mem_cons_self rfl j hj
          have fD : ∀ j : Nat, j < 16 → r2 (4195394 + 64 * j) = (xct r (.branch 0 (.leaf (10, .num 4195394)) (.branch 0 (.branch 0 (.branch 0 (.branch 0 (.leaf (0, .add (.var 4195458) (.num 1))) (.leaf (10, .num 4195394))) (.leaf (10, .num 4195394))) (.leaf (10, .num 4195394))) (.leaf (10, .num 4195394)))) j).2 := fun j hj => hR.2.1 _ (List.mem_cons_of_mem _ List.mem_cons_self) (4195394, 16, 505) (List.mem_cons_of_mem _ List.mem_cons_self) rfl j hj
          have fD2 : ∀ s : Nat, s < 8 → s ≠ (S p).toNat → r2 (4195394 + 64 * s) = D s := fun s hs hn => ((fD s (by omega)).trans (yb48_d9 r s hs (by omega))).trans (m5 s hs)
          have t1 : (0 : Int) ≤ r 1048704 ∧ r 1048704 ≤ (6 : Int) := hR.2.2.1 _ (List.mem_cons_of_mem _ List.mem_cons_self)
          have hv2 := yb48a_n hv (by omega) (by decide)
          exact hC r2 w x (f + 1) (yb48u S p (-1)) (fun s => r2 (4195394 + 64 * s)) hr2 G2 (a1049153.trans hZ) ⟨aw, a1048577.trans m2, by omega, fun k hk => yb48_fu (fS k (by omega)) hup rfl (m4 k hk), fun _ _ => rfl, yb48J_step m6 hp (by omega) fD2 (by decide)⟩ (by omega) hv2
    · have H1 := xHc (e := .sub (.var 128) (.var 1048960)) (lo := 2) (hi := 16) H (show (2 : Int) ≤ (r 128 - r 1048960) by omega) (show (r 128 - r 1048960) ≤ (16 : Int) by omega)
      have H2 := xHc (e := .var 1049024) (lo := 1) (hi := 15) H1 (show (1 : Int) ≤ r 1049024 by omega) (show r 1049024 ≤ (15 : Int) by omega)
      refine yz_run hL yq48_V6n hr H2 (xcut_s fun c hc r2 G2 hR => ?_)
      have hr2 : yzr L xs r2 := fun i hi => by rw [hR.2.2.2 i hi]; exact hr i hi
      have aw : r2 128 = w := (hR.2.2.2 128 (by decide)).trans m1
      rw [List.mem_singleton] at hc
      subst hc
      have a1048577 : r2 1048577 = r 1048577 := yas hR List.mem_cons_self
      have a1049024 : r2 1049024 = (r 1049024 + (-1 : Int)) := yas hR (List.mem_cons_of_mem _ List.mem_cons_self)
      have a1048960 : r2 1048960 = (r 1048960 + (1 : Int)) := yas hR (List.mem_cons_of_mem _ (List.mem_cons_of_mem _ List.mem_cons_self))
      have a1048640 : r2 1048640 = r 1048640 := yas hR (List.mem_cons_of_mem _ (List.mem_cons_of_mem _ (List.mem_cons_of_mem _ List.mem_cons_self)))
      have a1048704 : r2 1048704 = r 1048704 := yas hR (List.mem_cons_of_mem _ (List.mem_cons_of_mem _ (List.mem_cons_of_mem _ (List.mem_cons_of_mem _ List.mem_cons_self))))
      have a1049153 : r2 1049153 = r 1049153 := yas hR (List.mem_cons_of_mem _ (List.mem_cons_of_mem _ (List.mem_cons_of_mem _ (List.mem_cons_of_mem _ (List.mem_cons_of_mem _ List.mem_cons_self)))))
      have fS : ∀ j : Nat, j < 16 → r2 (4194310 + 64 * j) = r (4194310 + 64 * j) := fun j hj => hR.2.1 _ List.mem_cons_self (4194310, 16, 506) List.mem_cons_self rfl j hj
      have fD : ∀ j : Nat, j < 16 → r2 (4195394 + 64 * j) = r (4195394 + 64 * j) := fun j hj => hR.2.1 _ (List.mem_cons_of_mem _ List.mem_cons_self) (4195394, 16, 505) (List.mem_cons_of_mem _ List.mem_cons_self) rfl j hj
      exact ih r2 hr2 G2 (a1049153.trans hZ) ⟨aw, a1048577.trans m2, a1048704.trans m3, fun k hk => (fS k (by omega)).trans (m4 k hk), fun s hs => (fD s (by omega)).trans (m5 s hs), m6⟩ (by omega) (by omega) (by omega)
theorem y48_R7 {L : Nat} {xs : Nat → Int32} (hL : L ≤ 3584) {y0 : Int} {n : Nat} (hW : yb48V L xs (yZ1 y0) y0 yt48_V7 yF48_V7 n 7) : yb48C L xs (yZ1 y0) y0 yt48_R7 yF48_R7 (n + 1) 7 := by
  intro r w x f S D hr H hZ hM hT hy
  obtain ⟨m1, m2, m3, m4, m5, m6⟩ := hM
  have hw : 1 ≤ r 128 ∧ r 128 ≤ 16 := xbd_s H (e := .var 128) (lo := 1) (hi := 16) (by decide +kernel)
  have hw2 : 1 ≤ w ∧ w ≤ 16 := by omega
  have H1 := xHc (e := .sub (.var 128) (.pow (.add (.pow (.add (.pow (.add (.pow (.add (.var 1048577) (.num 6364136223846793005)) 38) (.num 1442695040888963407)) 36) (.num 33)) 51) (.var 128)) 40)) (lo := 1) (hi := 16) H (by rw [xden_sub, xden_var, yb48P_d, m1, m2]; exact (yb48_w1 (yb48P_r hw2.1 hw2.2) hw2.2).1) (by rw [xden_sub, xden_var, yb48P_d, m1, m2]; exact (yb48_w1 (yb48P_r hw2.1 hw2.2) hw2.2).2)
  refine yz_run hL yq48_R7 hr H1 (xcut_s fun c hc r2 G2 hR => ?_)
  have hr2 : yzr L xs r2 := fun i hi => by rw [hR.2.2.2 i hi]; exact hr i hi
  have aw : r2 128 = w := (hR.2.2.2 128 (by decide)).trans m1
  rw [List.mem_singleton] at hc
  subst hc
  have a1048960 : r2 1048960 = (0 : Int) := yas hR (List.mem_cons_of_mem _ (List.mem_cons_of_mem _ List.mem_cons_self))
  have a1048640 : r2 1048640 = r 1048640 := yas hR (List.mem_cons_of_mem _ (List.mem_cons_of_mem _ (List.mem_cons_of_mem _ List.mem_cons_self)))
  have a1048704 : r2 1048704 = r 1048704 := yas hR (List.mem_cons_of_mem _ (List.mem_cons_of_mem _ (List.mem_cons_of_mem _ (List.mem_cons_of_mem _ List.mem_cons_self))))
  have a1049153 : r2 1049153 = r 1049153 := yas hR (List.mem_cons_of_mem _ (List.mem_cons_of_mem _ (List.mem_cons_of_mem _ (List.mem_cons_of_mem _ (List.mem_cons_of_mem _ List.mem_cons_self)))))
  have fS : ∀ j : Nat, j < 16 → r2 (4194310 + 64 * j) = r (4194310 + 64 * j) := fun j hj => hR.2.1 _ List.mem_cons_self (4194310, 16, 506) List.mem_cons_self rfl j hj
  have fD : ∀ j : Nat, j < 16 → r2 (4195394 + 64 * j) = r (4195394 + 64 * j) := fun j hj => hR.2.1 _ (List.mem_cons_of_mem _ List.mem_cons_self) (4195394, 16, 505) (List.mem_cons_of_mem _ List.mem_cons_self) rfl j hj
  have o1 := hT
  have gS : ∀ k : Nat, (k : Int) < w → r2 (4194310 + 64 * k) = S k := fun k hk => (fS k (by omega)).trans (m4 k hk)
  have gD : ∀ s : Nat, s < 8 → r2 (4195394 + 64 * s) = D s := fun s hs => (fD s (by omega)).trans (m5 s hs)
  have gT : r2 1048640 + (n : Int) + 1 = 20000 := by omega
  have a1048577 : r2 1048577 = yb48X (r 1048577) := (yas hR List.mem_cons_self).trans (yb48X_d r)
  have a1049024 : r2 1049024 = yb48P (r 128) (r 1048577) := (yas hR (List.mem_cons_of_mem _ List.mem_cons_self)).trans (yb48P_d r)
  exact hW r2 w (yb48X x) f S D (yb48P w x).toNat hr2 G2 (a1049153.trans hZ) ⟨aw, by rw [a1048577, m2], a1048704.trans m3, gS, gD, m6⟩ gT (yb48_w2 (yb48P_r hw2.1 hw2.2)) (by rw [a1049024, a1048960, m1, m2]; exact yb48_w4 (yb48P_r hw2.1 hw2.2)) (yb48_t hy)
theorem y48_V7 {L : Nat} {xs : Nat → Int32} (hL : L ≤ 3584) {y0 : Int} {n : Nat} (hC : yb48C L xs (yZ1 y0) y0 yt48_R7 yF48_R7 n 7) (hC1 : yb48C L xs (yZ1 y0) y0 yt48_R6 yF48_R6 n 6) (hE0 : yb48E L xs (yZ1 y0) y0 (0) yt48_X0 yF48_X0) (hE3 : yb48E L xs (yZ1 y0) y0 (-3) yt48_X3 yF48_X3) : yb48V L xs (yZ1 y0) y0 yt48_V7 yF48_V7 n 7 := by
  intro r w x f S D p hr H hZ hM hT hp hP hy
  suffices main : ∀ d : Nat, ∀ r, yzr L xs r → xH r yF48_V7 → (yZ1 y0) r → yb48M r w 7 x f S D → r 1048640 + (n : Int) + 1 = 20000 → r 1049024 + r 1048960 = (p : Int) → r 1049024 < (d : Int) → xGl (yfT (ykold L xs)) r yzP yt48_V7 from
    main 16 r hr H hZ hM hT hP (by
      have hPb : 0 ≤ r 1049024 ∧ r 1049024 ≤ 15 := xbd_s H (e := .var 1049024) (lo := 0) (hi := 15) (by decide +kernel)
      omega)
  intro d
  induction d with
  | zero =>
    intro r hr H hZ hM hT hP hd
    have hPb : 0 ≤ r 1049024 ∧ r 1049024 ≤ 15 := xbd_s H (e := .var 1049024) (lo := 0) (hi := 15) (by decide +kernel)
    omega
  | succ d ih =>
    intro r hr H hZ hM hT hP hd
    have hPb : 0 ≤ r 1049024 ∧ r 1049024 ≤ 15 := xbd_s H (e := .var 1049024) (lo := 0) (hi := 15) (by decide +kernel)
    obtain ⟨m1, m2, m3, m4, m5, m6⟩ := hM
    have hw : 1 ≤ r 128 ∧ r 128 ≤ 16 := xbd_s H (e := .var 128) (lo := 1) (hi := 16) (by decide +kernel)
    have hu : 0 ≤ r 1048960 ∧ r 1048960 ≤ 15 := xbd_s H (e := .var 1048960) (lo := 0) (hi := 15) (by decide +kernel)
    have hf : 0 ≤ r 1048704 ∧ r 1048704 ≤ 7 := xbd_s H (e := .var 1048704) (lo := 0) (hi := 7) (by decide +kernel)
    by_cases hup0 : r 1049024 = 0
    · have hup : r 1048960 = (p : Int) := by omega
      have es : r (4194310 + 64 * (r 1048960).toNat) = S p := by
        have e0 : (r 1048960).toNat = p := by omega
        rw [e0]
        exact m4 p hp
      have j1 := m6.1 p hp
      have e : S p = -1 ∨ S p = 0 := by omega
      rcases e with e | e
      · have hv := yb48w_t (q := 6) hy e
        have hv2 := yb48a_n hv (by omega) (by decide)
        have H1 := xHc (e := .sub (.var 128) (.var 1048960)) (lo := 1) (hi := 16) H (show (1 : Int) ≤ (r 128 - r 1048960) by omega) (show (r 128 - r 1048960) ≤ (16 : Int) by omega)
        have H2 := xHc (e := .var 1049024) (lo := 0) (hi := 0) H1 (show (0 : Int) ≤ r 1049024 by omega) (show r 1049024 ≤ (0 : Int) by omega)
        have H3 := xHc (e := .pow (.sub (.num 4194310) (.var 1048960)) 0) (lo := -1) (hi := -1) H2 (show (-1 : Int) ≤ r (4194310 + 64 * (r 1048960).toNat) by omega) (show r (4194310 + 64 * (r 1048960).toNat) ≤ (-1 : Int) by omega)
        refine yz_run hL yq48_V7t hr H3 (xcut_s fun c hc r2 G2 hR => ?_)
        have hr2 : yzr L xs r2 := fun i hi => by rw [hR.2.2.2 i hi]; exact hr i hi
        have aw : r2 128 = w := (hR.2.2.2 128 (by decide)).trans m1
        simp only [List.mem_cons, List.not_mem_nil, or_false] at hc
        rcases hc with rfl | rfl
        · have a1048640 : r2 1048640 = (r 1048640 + (1 : Int)) := yas hR List.mem_cons_self
          have a1048704 : r2 1048704 = r 1048704 := yas hR (List.mem_cons_of_mem _ List.mem_cons_self)
          have a1049153 : r2 1049153 = r 1049153 := yas hR (List.mem_cons_of_mem _ (List.mem_cons_of_mem _ List.mem_cons_self))
          have fS : ∀ j : Nat, j < 16 → r2 (4194310 + 64 * j) = (bif decide (r 1048960 = (j : Int)) then ((0, 1) : ycV) else (0, r (4194310 + 64 * j))).2 := fun j hj => hR.2.1 _ List.mem_cons_self (4194310, 16, 506) List.mem_cons_self rfl j hj
          have fD : ∀ j : Nat, j < 16 → r2 (4195394 + 64 * j) = r (4195394 + 64 * j) := fun j hj => hR.2.1 _ (List.mem_cons_of_mem _ List.mem_cons_self) (4195394, 16, 505) (List.mem_cons_of_mem _ List.mem_cons_self) rfl j hj
          have t0 : (19999 : Int) ≤ r 1048640 ∧ r 1048640 ≤ (19999 : Int) := hR.2.2.1 _ List.mem_cons_self
          have hn : n = 0 := by omega
          subst hn
          exact hE3 (yb48_0 hv2) r2 hr2 G2 (a1049153.trans hZ)
        · have a1048577 : r2 1048577 = r 1048577 := yas hR List.mem_cons_self
          have a1048640 : r2 1048640 = (r 1048640 + (1 : Int)) := yas hR (List.mem_cons_of_mem _ List.mem_cons_self)
          have a1048704 : r2 1048704 = r 1048704 := yas hR (List.mem_cons_of_mem _ (List.mem_cons_of_mem _ List.mem_cons_self))
          have a1049153 : r2 1049153 = r 1049153 := yas hR (List.mem_cons_of_mem _ (List.mem_cons_of_mem _ (List.mem_cons_of_mem _ List.mem_cons_self)))
          have fS : ∀ j : Nat, j < 16 → r2 (4194310 + 64 * j) = (bif decide (r 1048960 = (j : Int)) then ((0, 1) : ycV) else (0, r (4194310 + 64 * j))).2 := fun j hj => hR.2.1 _ List.mem_cons_self (4194310, 16, 506) List.mem_cons_self rfl j hj
          have fD : ∀ j : Nat, j < 16 → r2 (4195394 + 64 * j) = r (4195394 + 64 * j) := fun j hj => hR.2.1 _ (List.mem_cons_of_mem _ List.mem_cons_self) (4195394, 16, 505) (List.mem_cons_of_mem _ List.mem_cons_self) rfl j hj
          exact hC1 r2 w x f (yb48u S p (8 - ((6 + 1 : Nat) : Int))) D hr2 G2 (a1049153.trans hZ) ⟨aw, a1048577.trans m2, a1048704.trans m3, fun k hk => yb48_fu (fS k (by omega)) hup (by decide) (m4 k hk), fun s hs => (fD s (by omega)).trans (m5 s hs), yb48J_take m6 hp (by decide)⟩ (by omega) hv2
      · have hv := yb48w_s hy (by omega)
        have ed : r 4195394 = 0 := (m5 0 (by decide)).trans (by
          have z := m6.2.2.1 p hp (by omega)
          rw [e] at z
          exact z)
        have H1 := xHc (e := .sub (.var 128) (.var 1048960)) (lo := 1) (hi := 16) H (show (1 : Int) ≤ (r 128 - r 1048960) by omega) (show (r 128 - r 1048960) ≤ (16 : Int) by omega)
        have H2 := xHc (e := .var 1049024) (lo := 0) (hi := 0) H1 (show (0 : Int) ≤ r 1049024 by omega) (show r 1049024 ≤ (0 : Int) by omega)
        have H3 := xHc (e := .pow (.sub (.num 4194310) (.var 1048960)) 0) (lo := 0) (hi := 0) H2 (show (0 : Int) ≤ r (4194310 + 64 * (r 1048960).toNat) by omega) (show r (4194310 + 64 * (r 1048960).toNat) ≤ (0 : Int) by omega)
        have H4 := xHc (e := .var 4195394) (lo := 0) (hi := 0) H3 (show (0 : Int) ≤ r 4195394 by omega) (show r 4195394 ≤ (0 : Int) by omega)
        refine yz_run hL yq48_V7s0 hr H4 (xcut_s fun c hc r2 G2 hR => ?_)
        have hr2 : yzr L xs r2 := fun i hi => by rw [hR.2.2.2 i hi]; exact hr i hi
        have aw : r2 128 = w := (hR.2.2.2 128 (by decide)).trans m1
        simp only [List.mem_cons, List.not_mem_nil, or_false] at hc
        rcases hc with rfl | rfl | rfl
        · have a1048640 : r2 1048640 = (r 1048640 + (1 : Int)) := yas hR List.mem_cons_self
          have a1048704 : r2 1048704 = (r 1048704 + (1 : Int)) := yas hR (List.mem_cons_of_mem _ List.mem_cons_self)
          have a1049153 : r2 1049153 = r 1049153 := yas hR (List.mem_cons_of_mem _ (List.mem_cons_of_mem _ List.mem_cons_self))
          have fS : ∀ j : Nat, j < 16 → r2 (4194310 + 64 * j) = (bif decide (r 1048960 = (j : Int)) then ((0, -1) : ycV) else (0, r (4194310 + 64 * j))).2 := fun j hj => hR.2.1 _ List.mem_cons_self (4194310, 16, 506) List.mem_cons_self rfl j hj
          have fD : ∀ j : Nat, j < 16 → r2 (4195394 + 64 * j) = (xct r (.branch 0 (.branch 0 (.branch 0 (.branch 0 (.branch 0 (.leaf (0, .add (.var 4195394) (.num 1))) (.leaf (10, .num 4195394))) (.leaf (10, .num 4195394))) (.leaf (10, .num 4195394))) (.leaf (10, .num 4195394))) (.leaf (10, .num 4195394))) j).2 := fun j hj => hR.2.1 _ (List.mem_cons_of_mem _ List.mem_cons_self) (4195394, 16, 505) (List.mem_cons_of_mem _ List.mem_cons_self) rfl j hj
          have fD2 : ∀ s : Nat, s < 8 → s ≠ (S p).toNat → r2 (4195394 + 64 * s) = D s := fun s hs hn => ((fD s (by omega)).trans (yb48_d8 r s hs (by omega))).trans (m5 s hs)
          have t0 : (7 : Int) ≤ r 1048704 ∧ r 1048704 ≤ (7 : Int) := hR.2.2.1 _ List.mem_cons_self
          exact hE0 (yb48a_e hv (by omega)) r2 hr2 G2 (a1049153.trans hZ)
        · have a1048640 : r2 1048640 = (r 1048640 + (1 : Int)) := yas hR List.mem_cons_self
          have a1048704 : r2 1048704 = (r 1048704 + (1 : Int)) := yas hR (List.mem_cons_of_mem _ List.mem_cons_self)
          have a1049153 : r2 1049153 = r 1049153 := yas hR (List.mem_cons_of_mem _ (List.mem_cons_of_mem _ List.mem_cons_self))
          have fS : ∀ j : Nat, j < 16 → r2 (4194310 + 64 * j) = (bif decide (r 1048960 = (j : Int)) then ((0, -1) : ycV) else (0, r (4194310 + 64 * j))).2 := fun j hj => hR.2.1 _ List.mem_cons_self (4194310, 16, 506) List.mem_cons_self rfl j hj
          have fD : ∀ j : Nat, j < 16 → r2 (4195394 + 64 * j) = (xct r (.branch 0 (.branch 0 (.branch 0 (.branch 0 (.branch 0 (.leaf (0, .add (.var 4195394) (.num 1))) (.leaf (10, .num 4195394))) (.leaf (10, .num 4195394))) (.leaf (10, .num 4195394))) (.leaf (10, .num 4195394))) (.leaf (10, .num 4195394))) j).2 := fun j hj => hR.2.1 _ (List.mem_cons_of_mem _ List.mem_cons_self) (4195394, 16, 505) (List.mem_cons_of_mem _ List.mem_cons_self) rfl j hj
          have fD2 : ∀ s : Nat, s < 8 → s ≠ (S p).toNat → r2 (4195394 + 64 * s) = D s := fun s hs hn => ((fD s (by omega)).trans (yb48_d8 r s hs (by omega))).trans (m5 s hs)
          have t1 : (0 : Int) ≤ r 1048704 ∧ r 1048704 ≤ (6 : Int) := hR.2.2.1 _ (List.mem_cons_of_mem _ List.mem_cons_self)
          have hv2 := yb48a_n hv (by omega) (by decide)
          have t0 : (19999 : Int) ≤ r 1048640 ∧ r 1048640 ≤ (19999 : Int) := hR.2.2.1 _ List.mem_cons_self
          have hn : n = 0 := by omega
          subst hn
          exact hE3 (yb48_0 hv2) r2 hr2 G2 (a1049153.trans hZ)
        · have a1048577 : r2 1048577 = r 1048577 := yas hR List.mem_cons_self
          have a1048640 : r2 1048640 = (r 1048640 + (1 : Int)) := yas hR (List.mem_cons_of_mem _ List.mem_cons_self)
          have a1048704 : r2 1048704 = (r 1048704 + (1 : Int)) := yas hR (List.mem_cons_of_mem _ (List.mem_cons_of_mem _ List.mem_cons_self))
          have a1049153 : r2 1049153 = r 1049153 := yas hR (List.mem_cons_of_mem _ (List.mem_cons_of_mem _ (List.mem_cons_of_mem _ List.mem_cons_self)))
          have fS : ∀ j : Nat, j < 16 → r2 (4194310 + 64 * j) = (bif decide (r 1048960 = (j : Int)) then ((0, -1) : ycV) else (0, r (4194310 + 64 * j))).2 := fun j hj => hR.2.1 _ List.mem_cons_self (4194310, 16, 506) List.mem_cons_self rfl j hj
          have fD : ∀ j : Nat, j < 16 → r2 (4195394 + 64 * j) = (xct r (.branch 0 (.branch 0 (.branch 0 (.branch 0 (.branch 0 (.leaf (0, .add (.var 4195394) (.num 1))) (.leaf (10, .num 4195394))) (.leaf (10, .num 4195394))) (.leaf (10, .num 4195394))) (.leaf (10, .num 4195394))) (.leaf (10, .num 4195394))) j).2 := fun j hj => hR.2.1 _ (List.mem_cons_of_mem _ List.mem_cons_self) (4195394, 16, 505) (List.mem_cons_of_mem _ List.mem_cons_self) rfl j hj
          have fD2 : ∀ s : Nat, s < 8 → s ≠ (S p).toNat → r2 (4195394 + 64 * s) = D s := fun s hs hn => ((fD s (by omega)).trans (yb48_d8 r s hs (by omega))).trans (m5 s hs)
          have t1 : (0 : Int) ≤ r 1048704 ∧ r 1048704 ≤ (6 : Int) := hR.2.2.1 _ (List.mem_cons_of_mem _ List.mem_cons_self)
          have hv2 := yb48a_n hv (by omega) (by decide)
          exact hC r2 w x (f + 1) (yb48u S p (-1)) (fun s => r2 (4195394 + 64 * s)) hr2 G2 (a1049153.trans hZ) ⟨aw, a1048577.trans m2, by omega, fun k hk => yb48_fu (fS k (by omega)) hup rfl (m4 k hk), fun _ _ => rfl, yb48J_step m6 hp (by omega) fD2 (by decide)⟩ (by omega) hv2
    · have H1 := xHc (e := .sub (.var 128) (.var 1048960)) (lo := 2) (hi := 16) H (show (2 : Int) ≤ (r 128 - r 1048960) by omega) (show (r 128 - r 1048960) ≤ (16 : Int) by omega)
      have H2 := xHc (e := .var 1049024) (lo := 1) (hi := 15) H1 (show (1 : Int) ≤ r 1049024 by omega) (show r 1049024 ≤ (15 : Int) by omega)
      refine yz_run hL yq48_V7n hr H2 (xcut_s fun c hc r2 G2 hR => ?_)
      have hr2 : yzr L xs r2 := fun i hi => by rw [hR.2.2.2 i hi]; exact hr i hi
      have aw : r2 128 = w := (hR.2.2.2 128 (by decide)).trans m1
      rw [List.mem_singleton] at hc
      subst hc
      have a1048577 : r2 1048577 = r 1048577 := yas hR List.mem_cons_self
      have a1049024 : r2 1049024 = (r 1049024 + (-1 : Int)) := yas hR (List.mem_cons_of_mem _ List.mem_cons_self)
      have a1048960 : r2 1048960 = (r 1048960 + (1 : Int)) := yas hR (List.mem_cons_of_mem _ (List.mem_cons_of_mem _ List.mem_cons_self))
      have a1048640 : r2 1048640 = r 1048640 := yas hR (List.mem_cons_of_mem _ (List.mem_cons_of_mem _ (List.mem_cons_of_mem _ List.mem_cons_self)))
      have a1048704 : r2 1048704 = r 1048704 := yas hR (List.mem_cons_of_mem _ (List.mem_cons_of_mem _ (List.mem_cons_of_mem _ (List.mem_cons_of_mem _ List.mem_cons_self))))
      have a1049153 : r2 1049153 = r 1049153 := yas hR (List.mem_cons_of_mem _ (List.mem_cons_of_mem _ (List.mem_cons_of_mem _ (List.mem_cons_of_mem _ (List.mem_cons_of_mem _ List.mem_cons_self)))))
      have fS : ∀ j : Nat, j < 16 → r2 (4194310 + 64 * j) = r (4194310 + 64 * j) := fun j hj => hR.2.1 _ List.mem_cons_self (4194310, 16, 506) List.mem_cons_self rfl j hj
      have fD : ∀ j : Nat, j < 16 → r2 (4195394 + 64 * j) = r (4195394 + 64 * j) := fun j hj => hR.2.1 _ (List.mem_cons_of_mem _ List.mem_cons_self) (4195394, 16, 505) (List.mem_cons_of_mem _ List.mem_cons_self) rfl j hj
      exact ih r2 hr2 G2 (a1049153.trans hZ) ⟨aw, a1048577.trans m2, a1048704.trans m3, fun k hk => (fS k (by omega)).trans (m4 k hk), fun s hs => (fD s (by omega)).trans (m5 s hs), m6⟩ (by omega) (by omega) (by omega)
theorem y48_R8 {L : Nat} {xs : Nat → Int32} (hL : L ≤ 3584) {y0 : Int} {n : Nat} (hW : yb48V L xs (yZ1 y0) y0 yt48_V8 yF48_V8 n 8) : yb48C L xs (yZ1 y0) y0 yt48_R8 yF48_R8 (n + 1) 8 := by
  intro r w x f S D hr H hZ hM hT hy
  obtain ⟨m1, m2, m3, m4, m5, m6⟩ := hM
  have hw : 1 ≤ r 128 ∧ r 128 ≤ 16 := xbd_s H (e := .var 128) (lo := 1) (hi := 16) (by decide +kernel)
  have hw2 : 1 ≤ w ∧ w ≤ 16 := by omega
  have H1 := xHc (e := .sub (.var 128) (.pow (.add (.pow (.add (.pow (.add (.pow (.add (.var 1048577) (.num 6364136223846793005)) 38) (.num 1442695040888963407)) 36) (.num 33)) 51) (.var 128)) 40)) (lo := 1) (hi := 16) H (by rw [xden_sub, xden_var, yb48P_d, m1, m2]; exact (yb48_w1 (yb48P_r hw2.1 hw2.2) hw2.2).1) (by rw [xden_sub, xden_var, yb48P_d, m1, m2]; exact (yb48_w1 (yb48P_r hw2.1 hw2.2) hw2.2).2)
  refine yz_run hL yq48_R8 hr H1 (xcut_s fun c hc r2 G2 hR => ?_)
  have hr2 : yzr L xs r2 := fun i hi => by rw [hR.2.2.2 i hi]; exact hr i hi
  have aw : r2 128 = w := (hR.2.2.2 128 (by decide)).trans m1
  rw [List.mem_singleton] at hc
  subst hc
  have a1048960 : r2 1048960 = (0 : Int) := yas hR (List.mem_cons_of_mem _ (List.mem_cons_of_mem _ List.mem_cons_self))
  have a1048640 : r2 1048640 = r 1048640 := yas hR (List.mem_cons_of_mem _ (List.mem_cons_of_mem _ (List.mem_cons_of_mem _ List.mem_cons_self)))
  have a1048704 : r2 1048704 = r 1048704 := yas hR (List.mem_cons_of_mem _ (List.mem_cons_of_mem _ (List.mem_cons_of_mem _ (List.mem_cons_of_mem _ List.mem_cons_self))))
  have a1049153 : r2 1049153 = r 1049153 := yas hR (List.mem_cons_of_mem _ (List.mem_cons_of_mem _ (List.mem_cons_of_mem _ (List.mem_cons_of_mem _ (List.mem_cons_of_mem _ List.mem_cons_self)))))
  have fS : ∀ j : Nat, j < 16 → r2 (4194310 + 64 * j) = r (4194310 + 64 * j) := fun j hj => hR.2.1 _ List.mem_cons_self (4194310, 16, 506) List.mem_cons_self rfl j hj
  have fD : ∀ j : Nat, j < 16 → r2 (4195394 + 64 * j) = r (4195394 + 64 * j) := fun j hj => hR.2.1 _ (List.mem_cons_of_mem _ List.mem_cons_self) (4195394, 16, 505) (List.mem_cons_of_mem _ List.mem_cons_self) rfl j hj
  have o1 := hT
  have gS : ∀ k : Nat, (k : Int) < w → r2 (4194310 + 64 * k) = S k := fun k hk => (fS k (by omega)).trans (m4 k hk)
  have gD : ∀ s : Nat, s < 8 → r2 (4195394 + 64 * s) = D s := fun s hs => (fD s (by omega)).trans (m5 s hs)
  have gT : r2 1048640 + (n : Int) + 1 = 20000 := by omega
  have a1048577 : r2 1048577 = yb48X (r 1048577) := (yas hR List.mem_cons_self).trans (yb48X_d r)
  have a1049024 : r2 1049024 = yb48P (r 128) (r 1048577) := (yas hR (List.mem_cons_of_mem _ List.mem_cons_self)).trans (yb48P_d r)
  exact hW r2 w (yb48X x) f S D (yb48P w x).toNat hr2 G2 (a1049153.trans hZ) ⟨aw, by rw [a1048577, m2], a1048704.trans m3, gS, gD, m6⟩ gT (yb48_w2 (yb48P_r hw2.1 hw2.2)) (by rw [a1049024, a1048960, m1, m2]; exact yb48_w4 (yb48P_r hw2.1 hw2.2)) (yb48_t hy)
theorem y48_V8 {L : Nat} {xs : Nat → Int32} (hL : L ≤ 3584) {y0 : Int} {n : Nat} (hC : yb48C L xs (yZ1 y0) y0 yt48_R8 yF48_R8 n 8) (hC1 : yb48C L xs (yZ1 y0) y0 yt48_R7 yF48_R7 n 7) (hE0 : yb48E L xs (yZ1 y0) y0 (0) yt48_X0 yF48_X0) (hE3 : yb48E L xs (yZ1 y0) y0 (-3) yt48_X3 yF48_X3) : yb48V L xs (yZ1 y0) y0 yt48_V8 yF48_V8 n 8 := by
  intro r w x f S D p hr H hZ hM hT hp hP hy
  suffices main : ∀ d : Nat, ∀ r, yzr L xs r → xH r yF48_V8 → (yZ1 y0) r → yb48M r w 8 x f S D → r 1048640 + (n : Int) + 1 = 20000 → r 1049024 + r 1048960 = (p : Int) → r 1049024 < (d : Int) → xGl (yfT (ykold L xs)) r yzP yt48_V8 from
    main 16 r hr H hZ hM hT hP (by
      have hPb : 0 ≤ r 1049024 ∧ r 1049024 ≤ 15 := xbd_s H (e := .var 1049024) (lo := 0) (hi := 15) (by decide +kernel)
      omega)
  intro d
  induction d with
  | zero =>
    intro r hr H hZ hM hT hP hd
    have hPb : 0 ≤ r 1049024 ∧ r 1049024 ≤ 15 := xbd_s H (e := .var 1049024) (lo := 0) (hi := 15) (by decide +kernel)
    omega
  | succ d ih =>
    intro r hr H hZ hM hT hP hd
    have hPb : 0 ≤ r 1049024 ∧ r 1049024 ≤ 15 := xbd_s H (e := .var 1049024) (lo := 0) (hi := 15) (by decide +kernel)
    obtain ⟨m1, m2, m3, m4, m5, m6⟩ := hM
    have hw : 1 ≤ r 128 ∧ r 128 ≤ 16 := xbd_s H (e := .var 128) (lo := 1) (hi := 16) (by decide +kernel)
    have hu : 0 ≤ r 1048960 ∧ r 1048960 ≤ 15 := xbd_s H (e := .var 1048960) (lo := 0) (hi := 15) (by decide +kernel)
    have hf : 0 ≤ r 1048704 ∧ r 1048704 ≤ 7 := xbd_s H (e := .var 1048704) (lo := 0) (hi := 7) (by decide +kernel)
    by_cases hup0 : r 1049024 = 0
    · have hup : r 1048960 = (p : Int) := by omega
      have es : r (4194310 + 64 * (r 1048960).toNat) = S p := by
        have e0 : (r 1048960).toNat = p := by omega
        rw [e0]
        exact m4 p hp
      have j1 := m6.1 p hp
      have e : S p = -1 := by omega
      skip
      have hv := yb48w_t (q := 7) hy e
      have hv2 := yb48a_n hv (by omega) (by decide)
      have H1 := xHc (e := .sub (.var 128) (.var 1048960)) (lo := 1) (hi := 16) H (show (1 : Int) ≤ (r 128 - r 1048960) by omega) (show (r 128 - r 1048960) ≤ (16 : Int) by omega)
      have H2 := xHc (e := .var 1049024) (lo := 0) (hi := 0) H1 (show (0 : Int) ≤ r 1049024 by omega) (show r 1049024 ≤ (0 : Int) by omega)
      have H3 := xHc (e := .pow (.sub (.num 4194310) (.var 1048960)) 0) (lo := -1) (hi := -1) H2 (show (-1 : Int) ≤ r (4194310 + 64 * (r 1048960).toNat) by omega) (show r (4194310 + 64 * (r 1048960).toNat) ≤ (-1 : Int) by omega)
      refine yz_run hL yq48_V8t hr H3 (xcut_s fun c hc r2 G2 hR => ?_)
      have hr2 : yzr L xs r2 := fun i hi => by rw [hR.2.2.2 i hi]; exact hr i hi
      have aw : r2 128 = w := (hR.2.2.2 128 (by decide)).trans m1
      simp only [List.mem_cons, List.not_mem_nil, or_false] at hc
      rcases hc with rfl | rfl
      · have a1048640 : r2 1048640 = (r 1048640 + (1 : Int)) := yas hR List.mem_cons_self
        have a1048704 : r2 1048704 = r 1048704 := yas hR (List.mem_cons_of_mem _ List.mem_cons_self)
        have a1049153 : r2 1049153 = r 1049153 := yas hR (List.mem_cons_of_mem _ (List.mem_cons_of_mem _ List.mem_cons_self))
        have fS : ∀ j : Nat, j < 16 → r2 (4194310 + 64 * j) = (bif decide (r 1048960 = (j : Int)) then ((0, 0) : ycV) else (0, r (4194310 + 64 * j))).2 := fun j hj => hR.2.1 _ List.mem_cons_self (4194310, 16, 506) List.mem_cons_self rfl j hj
        have fD : ∀ j : Nat, j < 16 → r2 (4195394 + 64 * j) = r (4195394 + 64 * j) := fun j hj => hR.2.1 _ (List.mem_cons_of_mem _ List.mem_cons_self) (4195394, 16, 505) (List.mem_cons_of_mem _ List.mem_cons_self) rfl j hj
        have t0 : (19999 : Int) ≤ r 1048640 ∧ r 1048640 ≤ (19999 : Int) := hR.2.2.1 _ List.mem_cons_self
        have hn : n = 0 := by omega
        subst hn
        exact hE3 (yb48_0 hv2) r2 hr2 G2 (a1049153.trans hZ)
      · have a1048577 : r2 1048577 = r 1048577 := yas hR List.mem_cons_self
        have a1048640 : r2 1048640 = (r 1048640 + (1 : Int)) := yas hR (List.mem_cons_of_mem _ List.mem_cons_self)
        have a1048704 : r2 1048704 = r 1048704 := yas hR (List.mem_cons_of_mem _ (List.mem_cons_of_mem _ List.mem_cons_self))
        have a1049153 : r2 1049153 = r 1049153 := yas hR (List.mem_cons_of_mem _ (List.mem_cons_of_mem _ (List.mem_cons_of_mem _ List.mem_cons_self)))
        have fS : ∀ j : Nat, j < 16 → r2 (4194310 + 64 * j) = (bif decide (r 1048960 = (j : Int)) then ((0, 0) : ycV) else (0, r (4194310 + 64 * j))).2 := fun j hj => hR.2.1 _ List.mem_cons_self (4194310, 16, 506) List.mem_cons_self rfl j hj
        have fD : ∀ j : Nat, j < 16 → r2 (4195394 + 64 * j) = r (4195394 + 64 * j) := fun j hj => hR.2.1 _ (List.mem_cons_of_mem _ List.mem_cons_self) (4195394, 16, 505) (List.mem_cons_of_mem _ List.mem_cons_self) rfl j hj
        exact hC1 r2 w x f (yb48u S p (8 - ((7 + 1 : Nat) : Int))) D hr2 G2 (a1049153.trans hZ) ⟨aw, a1048577.trans m2, a1048704.trans m3, fun k hk => yb48_fu (fS k (by omega)) hup (by decide) (m4 k hk), fun s hs => (fD s (by omega)).trans (m5 s hs), yb48J_take m6 hp (by decide)⟩ (by omega) hv2
    · have H1 := xHc (e := .sub (.var 128) (.var 1048960)) (lo := 2) (hi := 16) H (show (2 : Int) ≤ (r 128 - r 1048960) by omega) (show (r 128 - r 1048960) ≤ (16 : Int) by omega)
      have H2 := xHc (e := .var 1049024) (lo := 1) (hi := 15) H1 (show (1 : Int) ≤ r 1049024 by omega) (show r 1049024 ≤ (15 : Int) by omega)
      refine yz_run hL yq48_V8n hr H2 (xcut_s fun c hc r2 G2 hR => ?_)
      have hr2 : yzr L xs r2 := fun i hi => by rw [hR.2.2.2 i hi]; exact hr i hi
      have aw : r2 128 = w := (hR.2.2.2 128 (by decide)).trans m1
      rw [List.mem_singleton] at hc
      subst hc
      have a1048577 : r2 1048577 = r 1048577 := yas hR List.mem_cons_self
      have a1049024 : r2 1049024 = (r 1049024 + (-1 : Int)) := yas hR (List.mem_cons_of_mem _ List.mem_cons_self)
      have a1048960 : r2 1048960 = (r 1048960 + (1 : Int)) := yas hR (List.mem_cons_of_mem _ (List.mem_cons_of_mem _ List.mem_cons_self))
      have a1048640 : r2 1048640 = r 1048640 := yas hR (List.mem_cons_of_mem _ (List.mem_cons_of_mem _ (List.mem_cons_of_mem _ List.mem_cons_self)))
      have a1048704 : r2 1048704 = r 1048704 := yas hR (List.mem_cons_of_mem _ (List.mem_cons_of_mem _ (List.mem_cons_of_mem _ (List.mem_cons_of_mem _ List.mem_cons_self))))
      have a1049153 : r2 1049153 = r 1049153 := yas hR (List.mem_cons_of_mem _ (List.mem_cons_of_mem _ (List.mem_cons_of_mem _ (List.mem_cons_of_mem _ (List.mem_cons_of_mem _ List.mem_cons_self)))))
      have fS : ∀ j : Nat, j < 16 → r2 (4194310 + 64 * j) = r (4194310 + 64 * j) := fun j hj => hR.2.1 _ List.mem_cons_self (4194310, 16, 506) List.mem_cons_self rfl j hj
      have fD : ∀ j : Nat, j < 16 → r2 (4195394 + 64 * j) = r (4195394 + 64 * j) := fun j hj => hR.2.1 _ (List.mem_cons_of_mem _ List.mem_cons_self) (4195394, 16, 505) (List.mem_cons_of_mem _ List.mem_cons_self) rfl j hj
      exact ih r2 hr2 G2 (a1049153.trans hZ) ⟨aw, a1048577.trans m2, a1048704.trans m3, fun k hk => (fS k (by omega)).trans (m4 k hk), fun s hs => (fD s (by omega)).trans (m5 s hs), m6⟩ (by omega) (by omega) (by omega)
theorem y48_RK {L : Nat} {xs : Nat → Int32} (hL : L ≤ 3584) {y0 : Int} {n : Nat} (hC : yb48C L xs (yZ1 y0) y0 yt48_R0 yF48_R0 n 0) (hE2 : yb48E L xs (yZ1 y0) y0 (-2) yt48_X2 yF48_X2) (hE3 : yb48E L xs (yZ1 y0) y0 (-3) yt48_X3 yF48_X3) : yb48K L xs (yZ1 y0) y0 yt48_RK yF48_RK n := by
  intro r w x f S D hr H hZ hM hT hS hy
  suffices main : ∀ d : Nat, ∀ r, yzr L xs r → xH r yF48_RK → (yZ1 y0) r → yb48M r w 0 x f S D → r 1048640 + (n : Int) = 20000 → (∀ j : Nat, (j : Int) < r 1048960 → S j = -1) → r 128 - r 1048960 < (d : Int) → xGl (yfT (ykold L xs)) r yzP yt48_RK from
    main 17 r hr H hZ hM hT hS (by
      have ha : 0 ≤ r 128 - r 1048960 ∧ r 128 - r 1048960 ≤ 16 := xbd_s H (e := .sub (.var 128) (.var 1048960)) (lo := 0) (hi := 16) (by decide +kernel)
      omega)
  intro d
  induction d with
  | zero =>
    intro r hr H hZ hM hT hS hd
    have ha : 0 ≤ r 128 - r 1048960 ∧ r 128 - r 1048960 ≤ 16 := xbd_s H (e := .sub (.var 128) (.var 1048960)) (lo := 0) (hi := 16) (by decide +kernel)
    omega
  | succ d ih =>
    intro r hr H hZ hM hT hS hd
    have ha : 0 ≤ r 128 - r 1048960 ∧ r 128 - r 1048960 ≤ 16 := xbd_s H (e := .sub (.var 128) (.var 1048960)) (lo := 0) (hi := 16) (by decide +kernel)
    obtain ⟨m1, m2, m3, m4, m5, m6⟩ := hM
    have hw : 1 ≤ r 128 ∧ r 128 ≤ 16 := xbd_s H (e := .var 128) (lo := 1) (hi := 16) (by decide +kernel)
    have hu : 0 ≤ r 1048960 ∧ r 1048960 ≤ 16 := xbd_s H (e := .var 1048960) (lo := 0) (hi := 16) (by decide +kernel)
    have hf : 0 ≤ r 1048704 ∧ r 1048704 ≤ 7 := xbd_s H (e := .var 1048704) (lo := 0) (hi := 7) (by decide +kernel)
    by_cases hue : r 1048960 = r 128
    · have H1 := xHc (e := .sub (.var 128) (.var 1048960)) (lo := 0) (hi := 0) H (show (0 : Int) ≤ (r 128 - r 1048960) by omega) (show (r 128 - r 1048960) ≤ (0 : Int) by omega)
      refine yz_run hL yq48_RKx hr H1 (xcut_s fun c hc r2 G2 hR => ?_)
      have hr2 : yzr L xs r2 := fun i hi => by rw [hR.2.2.2 i hi]; exact hr i hi
      have aw : r2 128 = w := (hR.2.2.2 128 (by decide)).trans m1
      rw [List.mem_singleton] at hc
      subst hc
      have a1048640 : r2 1048640 = r 1048640 := yas hR List.mem_cons_self
      have a1048704 : r2 1048704 = r 1048704 := yas hR (List.mem_cons_of_mem _ List.mem_cons_self)
      have a1049153 : r2 1049153 = r 1049153 := yas hR (List.mem_cons_of_mem _ (List.mem_cons_of_mem _ List.mem_cons_self))
      have fS : ∀ j : Nat, j < 16 → r2 (4194310 + 64 * j) = r (4194310 + 64 * j) := fun j hj => hR.2.1 _ List.mem_cons_self (4194310, 16, 506) List.mem_cons_self rfl j hj
      have fD : ∀ j : Nat, j < 16 → r2 (4195394 + 64 * j) = r (4195394 + 64 * j) := fun j hj => hR.2.1 _ (List.mem_cons_of_mem _ List.mem_cons_self) (4195394, 16, 505) (List.mem_cons_of_mem _ List.mem_cons_self) rfl j hj
      exact hE2 (yb48a_s hy (by omega) ⟨rfl, fun p hp => hS p (by omega)⟩) r2 hr2 G2 (a1049153.trans hZ)
    · have es : r (4194310 + 64 * (r 1048960).toNat) = S (r 1048960).toNat := m4 _ (by omega)
      have j1 := m6.1 (r 1048960).toNat (by omega)
      by_cases e : S (r 1048960).toNat = -1
      · have H1 := xHc (e := .sub (.var 128) (.var 1048960)) (lo := 1) (hi := 16) H (show (1 : Int) ≤ (r 128 - r 1048960) by omega) (show (r 128 - r 1048960) ≤ (16 : Int) by omega)
        have H2 := xHc (e := .pow (.sub (.num 4194310) (.var 1048960)) 0) (lo := -1) (hi := -1) H1 (show (-1 : Int) ≤ r (4194310 + 64 * (r 1048960).toNat) by omega) (show r (4194310 + 64 * (r 1048960).toNat) ≤ (-1 : Int) by omega)
        refine yz_run hL yq48_RKn hr H2 (xcut_s fun c hc r2 G2 hR => ?_)
        have hr2 : yzr L xs r2 := fun i hi => by rw [hR.2.2.2 i hi]; exact hr i hi
        have aw : r2 128 = w := (hR.2.2.2 128 (by decide)).trans m1
        rw [List.mem_singleton] at hc
        subst hc
        have a1048577 : r2 1048577 = r 1048577 := yas hR List.mem_cons_self
        have a1048960 : r2 1048960 = (r 1048960 + (1 : Int)) := yas hR (List.mem_cons_of_mem _ List.mem_cons_self)
        have a1048640 : r2 1048640 = r 1048640 := yas hR (List.mem_cons_of_mem _ (List.mem_cons_of_mem _ List.mem_cons_self))
        have a1048704 : r2 1048704 = r 1048704 := yas hR (List.mem_cons_of_mem _ (List.mem_cons_of_mem _ (List.mem_cons_of_mem _ List.mem_cons_self)))
        have a1049153 : r2 1049153 = r 1049153 := yas hR (List.mem_cons_of_mem _ (List.mem_cons_of_mem _ (List.mem_cons_of_mem _ (List.mem_cons_of_mem _ List.mem_cons_self))))
        have fS : ∀ j : Nat, j < 16 → r2 (4194310 + 64 * j) = r (4194310 + 64 * j) := fun j hj => hR.2.1 _ List.mem_cons_self (4194310, 16, 506) List.mem_cons_self rfl j hj
        have fD : ∀ j : Nat, j < 16 → r2 (4195394 + 64 * j) = r (4195394 + 64 * j) := fun j hj => hR.2.1 _ (List.mem_cons_of_mem _ List.mem_cons_self) (4195394, 16, 505) (List.mem_cons_of_mem _ List.mem_cons_self) rfl j hj
        exact ih r2 hr2 G2 (a1049153.trans hZ) ⟨aw, a1048577.trans m2, a1048704.trans m3, fun k hk => (fS k (by omega)).trans (m4 k hk), fun s hs => (fD s (by omega)).trans (m5 s hs), m6⟩ (by omega) (fun j hj => by
          by_cases h : (j : Int) < r 1048960
          · exact hS j h
          · have h2 : j = (r 1048960).toNat := by omega
            rw [h2]
            exact e) (by omega)
      · have hv2 := yb48a_m hy (by omega) (fun hk => e (hk.2 _ (by omega)))
        have H1 := xHc (e := .sub (.var 128) (.var 1048960)) (lo := 1) (hi := 16) H (show (1 : Int) ≤ (r 128 - r 1048960) by omega) (show (r 128 - r 1048960) ≤ (16 : Int) by omega)
        have H2 := xHc (e := .pow (.sub (.num 4194310) (.var 1048960)) 0) (lo := 0) (hi := 7) H1 (show (0 : Int) ≤ r (4194310 + 64 * (r 1048960).toNat) by omega) (show r (4194310 + 64 * (r 1048960).toNat) ≤ (7 : Int) by omega)
        refine yz_run hL yq48_RKg hr H2 (xcut_s fun c hc r2 G2 hR => ?_)
        have hr2 : yzr L xs r2 := fun i hi => by rw [hR.2.2.2 i hi]; exact hr i hi
        have aw : r2 128 = w := (hR.2.2.2 128 (by decide)).trans m1
        simp only [List.mem_cons, List.not_mem_nil, or_false] at hc
        rcases hc with rfl | rfl
        · have a1048640 : r2 1048640 = r 1048640 := yas hR List.mem_cons_self
          have a1048704 : r2 1048704 = r 1048704 := yas hR (List.mem_cons_of_mem _ List.mem_cons_self)
          have a1049153 : r2 1049153 = r 1049153 := yas hR (List.mem_cons_of_mem _ (List.mem_cons_of_mem _ List.mem_cons_self))
          have fS : ∀ j : Nat, j < 16 → r2 (4194310 + 64 * j) = r (4194310 + 64 * j) := fun j hj => hR.2.1 _ List.mem_cons_self (4194310, 16, 506) List.mem_cons_self rfl j hj
          have fD : ∀ j : Nat, j < 16 → r2 (4195394 + 64 * j) = r (4195394 + 64 * j) := fun j hj => hR.2.1 _ (List.mem_cons_of_mem _ List.mem_cons_self) (4195394, 16, 505) (List.mem_cons_of_mem _ List.mem_cons_self) rfl j hj
          have t0 : (20000 : Int) ≤ r 1048640 ∧ r 1048640 ≤ (20000 : Int) := hR.2.2.1 _ List.mem_cons_self
          have hn : n = 0 := by omega
          subst hn
          exact hE3 (yb48_0 hv2) r2 hr2 G2 (a1049153.trans hZ)
        · have a1048577 : r2 1048577 = r 1048577 := yas hR List.mem_cons_self
          have a1048640 : r2 1048640 = r 1048640 := yas hR (List.mem_cons_of_mem _ List.mem_cons_self)
          have a1048704 : r2 1048704 = r 1048704 := yas hR (List.mem_cons_of_mem _ (List.mem_cons_of_mem _ List.mem_cons_self))
          have a1049153 : r2 1049153 = r 1049153 := yas hR (List.mem_cons_of_mem _ (List.mem_cons_of_mem _ (List.mem_cons_of_mem _ List.mem_cons_self)))
          have fS : ∀ j : Nat, j < 16 → r2 (4194310 + 64 * j) = r (4194310 + 64 * j) := fun j hj => hR.2.1 _ List.mem_cons_self (4194310, 16, 506) List.mem_cons_self rfl j hj
          have fD : ∀ j : Nat, j < 16 → r2 (4195394 + 64 * j) = r (4195394 + 64 * j) := fun j hj => hR.2.1 _ (List.mem_cons_of_mem _ List.mem_cons_self) (4195394, 16, 505) (List.mem_cons_of_mem _ List.mem_cons_self) rfl j hj
          exact hC r2 w x f S D hr2 G2 (a1049153.trans hZ) ⟨aw, a1048577.trans m2, a1048704.trans m3, fun k hk => (fS k (by omega)).trans (m4 k hk), fun s hs => (fD s (by omega)).trans (m5 s hs), m6⟩ (by omega) hv2
theorem y48_allR {L : Nat} {xs : Nat → Int32} (hL : L ≤ 3584) {y0 : Int} (hE0 : yb48E L xs (yZ1 y0) y0 (0) yt48_X0 yF48_X0) (hE2 : yb48E L xs (yZ1 y0) y0 (-2) yt48_X2 yF48_X2) (hE3 : yb48E L xs (yZ1 y0) y0 (-3) yt48_X3 yF48_X3) : ∀ n : Nat, yb48C L xs (yZ1 y0) y0 yt48_R0 yF48_R0 n 0 ∧ yb48C L xs (yZ1 y0) y0 yt48_R1 yF48_R1 n 1 ∧ yb48C L xs (yZ1 y0) y0 yt48_R2 yF48_R2 n 2 ∧ yb48C L xs (yZ1 y0) y0 yt48_R3 yF48_R3 n 3 ∧ yb48C L xs (yZ1 y0) y0 yt48_R4 yF48_R4 n 4 ∧ yb48C L xs (yZ1 y0) y0 yt48_R5 yF48_R5 n 5 ∧ yb48C L xs (yZ1 y0) y0 yt48_R6 yF48_R6 n 6 ∧ yb48C L xs (yZ1 y0) y0 yt48_R7 yF48_R7 n 7 ∧ yb48C L xs (yZ1 y0) y0 yt48_R8 yF48_R8 n 8 := by
  intro n
  induction n with
  | zero => exact ⟨yb48_z (by decide +kernel), yb48_z (by decide +kernel), yb48_z (by decide +kernel), yb48_z (by decide +kernel), yb48_z (by decide +kernel), yb48_z (by decide +kernel), yb48_z (by decide +kernel), yb48_z (by decide +kernel), yb48_z (by decide +kernel)⟩
  | succ n ih =>
    obtain ⟨c0, c1, c2, c3, c4, c5, c6, c7, c8⟩ := ih
    have k := y48_RK hL c0 hE2 hE3
    have w0 := y48_V0 hL k hE0 hE3
    have w1 := y48_V1 hL c1 k hE0 hE3
    have w2 := y48_V2 hL c2 c1 hE0 hE3
    have w3 := y48_V3 hL c3 c2 hE0 hE3
    have w4 := y48_V4 hL c4 c3 hE0 hE3
    have w5 := y48_V5 hL c5 c4 hE0 hE3
    have w6 := y48_V6 hL c6 c5 hE0 hE3
    have w7 := y48_V7 hL c7 c6 hE0 hE3
    have w8 := y48_V8 hL c8 c7 hE0 hE3
    exact ⟨y48_R0 hL w0, y48_R1 hL w1, y48_R2 hL w2, y48_R3 hL w3, y48_R4 hL w4, y48_R5 hL w5, y48_R6 hL w6, y48_R7 hL w7, y48_R8 hL w8⟩
theorem y48_X2 {L : Nat} {xs : Nat → Int32} (hL : L ≤ 3584) {y0 : Int} : yb48E L xs (yZ1 y0) y0 (-2) yt48_X2 yF48_X2 := by
  intro he r hr H hZ
  have z : r 1049153 = y0 := hZ
  have H1 := xHc (e := .var 1049153) (lo := -2) (hi := -2) H (show (-2 : Int) ≤ r 1049153 by omega) (show r 1049153 ≤ (-2 : Int) by omega)
  exact yz_run hL yq48_X2 hr H1 (xcut_s fun c hc => absurd hc List.not_mem_nil)
theorem y48_X3 {L : Nat} {xs : Nat → Int32} (hL : L ≤ 3584) {y0 : Int} : yb48E L xs (yZ1 y0) y0 (-3) yt48_X3 yF48_X3 := by
  intro he r hr H hZ
  have z : r 1049153 = y0 := hZ
  have H1 := xHc (e := .var 1049153) (lo := -3) (hi := -3) H (show (-3 : Int) ≤ r 1049153 by omega) (show r 1049153 ≤ (-3 : Int) by omega)
  exact yz_run hL yq48_X3 hr H1 (xcut_s fun c hc => absurd hc List.not_mem_nil)
theorem yL48x_1 {L : Nat} {xs : Nat → Int32} (hL : L ≤ 3584) : ∀ g ∈ [yg48x_1], yzG L xs g.1.1 g.1.2.2.2.1 := yz_loop hL (ext := []) (fun _ hc => absurd hc List.not_mem_nil) (by decide) (by
  intro g hg
  simp only [List.mem_cons, List.not_mem_nil, or_false] at hg
  rcases hg with rfl
  · exact yq48x_h1)
theorem yH48x_1 {L : Nat} {xs : Nat → Int32} (hL : L ≤ 3584) : yzG L xs yg48x_1.1.1 yg48x_1.1.2.2.2.1 := yL48x_1 hL _ List.mem_cons_self
theorem yL48x_0 {L : Nat} {xs : Nat → Int32} (hL : L ≤ 3584) : ∀ g ∈ [yg48x_0], yzG L xs g.1.1 g.1.2.2.2.1 := yz_loop hL (ext := [yg48x_1.1]) (by
  intro c hc
  simp only [List.mem_cons, List.not_mem_nil, or_false] at hc
  rcases hc with rfl
  · exact yH48x_1 hL) (by decide) (by
  intro g hg
  simp only [List.mem_cons, List.not_mem_nil, or_false] at hg
  rcases hg with rfl
  · exact yq48x_h0)
theorem yH48x_0 {L : Nat} {xs : Nat → Int32} (hL : L ≤ 3584) : yzG L xs yg48x_0.1.1 yg48x_0.1.2.2.2.1 := yL48x_0 hL _ List.mem_cons_self
theorem y48_X0 {L : Nat} {xs : Nat → Int32} (hL : L ≤ 3584) {y0 : Int} : yb48E L xs (yZ1 y0) y0 (0) yt48_X0 yF48_X0 := by
  intro he r hr H hZ
  have z : r 1049153 = y0 := hZ
  have H1 := xHc (e := .var 1049153) (lo := 0) (hi := 0) H (show (0 : Int) ≤ r 1049153 by omega) (show r 1049153 ≤ (0 : Int) by omega)
  refine yz_to hL yq48x_s (fun c hc => ?_) r hr H1
  simp only [List.mem_cons, List.not_mem_nil, or_false] at hc
  rcases hc with rfl
  · exact yH48x_0 hL
def yb48x (L : Nat) (xs : Nat → Int32) : Int := xop 34 (xop 49 (yxr L xs 192) ((32 : Int))) (xop 33 (yxr L xs 256) ((4294967295 : Int)))
def yb48B (L : Nat) (xs : Nat → Int32) (y0 : Int) : Prop := ∀ r, yzr L xs r → xH r yF48_B → r 1049153 = y0 → (∀ j : Nat, (j : Int) < r 1048960 → r (4194310 + 64 * j) = -1) → xGl (yfT (ykold L xs)) r yzP yt48_B
theorem y48_B {L : Nat} {xs : Nat → Int32} (hL : L ≤ 3584) {y0 : Int} {n : Nat} (hn : (n : Int) = 20000) (hR8 : yb48C L xs (yZ1 y0) y0 yt48_R8 yF48_R8 n 8) (hy : yq (yb48 (yxr L xs 128) n 8 (yb48x L xs) 0 (fun _ => -1)) y0) : yb48B L xs y0 := by
  intro r hr H hZ hS
  suffices main : ∀ d : Nat, ∀ r, yzr L xs r → xH r yF48_B → r 1049153 = y0 → (∀ j : Nat, (j : Int) < r 1048960 → r (4194310 + 64 * j) = -1) → yq (yb48 (r 128) n 8 (yb48x L xs) 0 (fun _ => -1)) y0 → r 128 - r 1048960 < (d : Int) → xGl (yfT (ykold L xs)) r yzP yt48_B from
    main 17 r hr H hZ hS (by rw [hr 128 (by decide)]; exact hy) (by
      have ha : 0 ≤ r 128 - r 1048960 ∧ r 128 - r 1048960 ≤ 16 := xbd_s H (e := .sub (.var 128) (.var 1048960)) (lo := 0) (hi := 16) (by decide +kernel)
      omega)
  clear hy
  intro d
  induction d with
  | zero =>
    intro r hr H hZ hS hy hd
    have ha : 0 ≤ r 128 - r 1048960 ∧ r 128 - r 1048960 ≤ 16 := xbd_s H (e := .sub (.var 128) (.var 1048960)) (lo := 0) (hi := 16) (by decide +kernel)
    omega
  | succ d ih =>
    intro r hr H hZ hS hy hd
    have ha : 0 ≤ r 128 - r 1048960 ∧ r 128 - r 1048960 ≤ 16 := xbd_s H (e := .sub (.var 128) (.var 1048960)) (lo := 0) (hi := 16) (by decide +kernel)
    obtain ⟨w, m1⟩ : ∃ w, r 128 = w := ⟨_, rfl⟩
    have hw : 1 ≤ r 128 ∧ r 128 ≤ 16 := xbd_s H (e := .var 128) (lo := 1) (hi := 16) (by decide +kernel)
    have hu : 0 ≤ r 1048960 ∧ r 1048960 ≤ 16 := xbd_s H (e := .var 1048960) (lo := 0) (hi := 16) (by decide +kernel)
    by_cases hue : r 1048960 = r 128
    · have s0 : r 4194310 = -1 := hS 0 (by omega)
      have H1 := xHc (e := .sub (.var 128) (.var 1048960)) (lo := 0) (hi := 0) H (show (0 : Int) ≤ (r 128 - r 1048960) by omega) (show (r 128 - r 1048960) ≤ (0 : Int) by omega)
      have H2 := xHc (e := .var 4194310) (lo := -1) (hi := -1) H1 (show (-1 : Int) ≤ r 4194310 by omega) (show r 4194310 ≤ (-1 : Int) by omega)
      refine yz_run hL yq48_Bx hr H2 (xcut_s fun c hc r2 G2 hR => ?_)
      have hr2 : yzr L xs r2 := fun i hi => by rw [hR.2.2.2 i hi]; exact hr i hi
      have aw : r2 128 = w := (hR.2.2.2 128 (by decide)).trans m1
      rw [List.mem_singleton] at hc
      subst hc
      have a1048640 : r2 1048640 = (0 : Int) := yas hR (List.mem_cons_of_mem _ List.mem_cons_self)
      have a1048704 : r2 1048704 = (0 : Int) := yas hR (List.mem_cons_of_mem _ (List.mem_cons_of_mem _ List.mem_cons_self))
      have a1049153 : r2 1049153 = r 1049153 := yas hR (List.mem_cons_of_mem _ (List.mem_cons_of_mem _ (List.mem_cons_of_mem _ List.mem_cons_self)))
      have fS : ∀ j : Nat, j < 16 → r2 (4194310 + 64 * j) = r (4194310 + 64 * j) := fun j hj => hR.2.1 _ List.mem_cons_self (4194310, 16, 506) List.mem_cons_self rfl j hj
      have fD : ∀ j : Nat, j < 16 → r2 (4195394 + 64 * j) = (0 : Int) := fun j hj => hR.2.1 _ (List.mem_cons_of_mem _ List.mem_cons_self) (4195394, 16, 505) (List.mem_cons_of_mem _ List.mem_cons_self) rfl j hj
      have gS : ∀ k : Nat, (k : Int) < w → r2 (4194310 + 64 * k) = -1 := fun k hk => (fS k (by omega)).trans (hS k (by omega))
      have gD : ∀ s : Nat, s < 8 → r2 (4195394 + 64 * s) = 0 := fun s hs => fD s (by omega)
      have gT : r2 1048640 + (n : Int) = 20000 := by omega
      have a1048577 : r2 1048577 = xop 34 (xop 49 (r 192) ((32 : Int))) (xop 33 (r 256) ((4294967295 : Int))) := (yas hR List.mem_cons_self).trans (yb48x_d r)
      exact hR8 r2 w (yb48x L xs) 0 (fun _ => -1) (fun _ => 0) hr2 G2 (a1049153.trans hZ) ⟨aw, a1048577.trans (by unfold yb48x; rw [hr 192 (by decide), hr 256 (by decide)]), a1048704, gS, gD, yb48J_0⟩ gT (by rw [← m1]; exact hy)
    · have H1 := xHc (e := .sub (.var 128) (.var 1048960)) (lo := 1) (hi := 16) H (show (1 : Int) ≤ (r 128 - r 1048960) by omega) (show (r 128 - r 1048960) ≤ (16 : Int) by omega)
      refine yz_run hL yq48_B hr H1 (xcut_s fun c hc r2 G2 hR => ?_)
      have hr2 : yzr L xs r2 := fun i hi => by rw [hR.2.2.2 i hi]; exact hr i hi
      have aw : r2 128 = w := (hR.2.2.2 128 (by decide)).trans m1
      rw [List.mem_singleton] at hc
      subst hc
      have a1048960 : r2 1048960 = (r 1048960 + (1 : Int)) := yas hR List.mem_cons_self
      have a1049153 : r2 1049153 = r 1049153 := yas hR (List.mem_cons_of_mem _ List.mem_cons_self)
      have fS : ∀ j : Nat, j < 16 → r2 (4194310 + 64 * j) = (bif decide (r 1048960 = (j : Int)) then ((0, -1) : ycV) else (0, r (4194310 + 64 * j))).2 := fun j hj => hR.2.1 _ List.mem_cons_self (4194310, 16, 506) List.mem_cons_self rfl j hj
      exact ih r2 hr2 G2 (a1049153.trans hZ) (fun j hj => by
        have e0 : (r 1048960).toNat = (r 1048960).toNat := rfl
        have f := fS j (by omega)
        rw [f]
        by_cases h : r 1048960 = (j : Int)
        · rw [decide_eq_true h]
          rfl
        · rw [decide_eq_false h]
          exact hS j (by omega)) (by rw [aw, ← m1]; exact hy) (by omega)
theorem y48_E2_0 {L : Nat} {xs : Nat → Int32} (hL : L ≤ 3584) {y0 : Int} (hB : yb48B L xs y0) : y0 = -2 → yzG L xs yt48_E2 ((.var 384, 0, 3) :: (.var 320, 0, 0) :: yF48_E2) := by
  intro he r hr H
  refine yz_run hL yq48_E2_0 hr H (xcut_s fun c hc r2 G2 hR => ?_)
  have hr2 : yzr L xs r2 := fun i hi => by rw [hR.2.2.2 i hi]; exact hr i hi
  rw [List.mem_singleton] at hc
  subst hc
  have a1048960 : r2 1048960 = (0 : Int) := yas hR List.mem_cons_self
  have a1049153 : r2 1049153 = (-2 : Int) := yas hR (List.mem_cons_of_mem _ List.mem_cons_self)
  exact hB r2 hr2 G2 (by omega) (fun j hj => absurd hj (by omega))
theorem y48_E2_1 {L : Nat} {xs : Nat → Int32} (hL : L ≤ 3584) {y0 : Int} (hB : yb48B L xs y0) : y0 = -2 → yzG L xs yt48_E2 ((.var 384, 0, 60000) :: (.var 320, 1, 1) :: yF48_E2) := by
  intro he r hr H
  refine yz_run hL yq48_E2_1 hr H (xcut_s fun c hc r2 G2 hR => ?_)
  have hr2 : yzr L xs r2 := fun i hi => by rw [hR.2.2.2 i hi]; exact hr i hi
  rw [List.mem_singleton] at hc
  subst hc
  have a1048960 : r2 1048960 = (0 : Int) := yas hR List.mem_cons_self
  have a1049153 : r2 1049153 = (-2 : Int) := yas hR (List.mem_cons_of_mem _ List.mem_cons_self)
  exact hB r2 hr2 G2 (by omega) (fun j hj => absurd hj (by omega))
theorem y48_E2_2 {L : Nat} {xs : Nat → Int32} (hL : L ≤ 3584) {y0 : Int} (hB : yb48B L xs y0) : y0 = -2 → yzG L xs yt48_E2 ((.var 384, 0, 0) :: (.var 320, 2, 2) :: yF48_E2) := by
  intro he r hr H
  refine yz_run hL yq48_E2_2 hr H (xcut_s fun c hc r2 G2 hR => ?_)
  have hr2 : yzr L xs r2 := fun i hi => by rw [hR.2.2.2 i hi]; exact hr i hi
  rw [List.mem_singleton] at hc
  subst hc
  have a1048960 : r2 1048960 = (0 : Int) := yas hR List.mem_cons_self
  have a1049153 : r2 1049153 = (-2 : Int) := yas hR (List.mem_cons_of_mem _ List.mem_cons_self)
  exact hB r2 hr2 G2 (by omega) (fun j hj => absurd hj (by omega))
theorem y48_E2_3 {L : Nat} {xs : Nat → Int32} (hL : L ≤ 3584) {y0 : Int} (hB : yb48B L xs y0) : y0 = -2 → yzG L xs yt48_E2 ((.var 384, 1, 2) :: (.var 320, 3, 3) :: yF48_E2) := by
  intro he r hr H
  refine yz_run hL yq48_E2_3 hr H (xcut_s fun c hc r2 G2 hR => ?_)
  have hr2 : yzr L xs r2 := fun i hi => by rw [hR.2.2.2 i hi]; exact hr i hi
  rw [List.mem_singleton] at hc
  subst hc
  have a1048960 : r2 1048960 = (0 : Int) := yas hR List.mem_cons_self
  have a1049153 : r2 1049153 = (-2 : Int) := yas hR (List.mem_cons_of_mem _ List.mem_cons_self)
  exact hB r2 hr2 G2 (by omega) (fun j hj => absurd hj (by omega))
theorem y48_E3_0 {L : Nat} {xs : Nat → Int32} (hL : L ≤ 3584) {y0 : Int} (hB : yb48B L xs y0) : y0 = -3 → yzG L xs yt48_E3 ((.var 384, 0, 3) :: (.var 320, 0, 0) :: yF48_E3) := by
  intro he r hr H
  refine yz_run hL yq48_E3_0 hr H (xcut_s fun c hc r2 G2 hR => ?_)
  have hr2 : yzr L xs r2 := fun i hi => by rw [hR.2.2.2 i hi]; exact hr i hi
  rw [List.mem_singleton] at hc
  subst hc
  have a1048960 : r2 1048960 = (0 : Int) := yas hR List.mem_cons_self
  have a1049153 : r2 1049153 = (-3 : Int) := yas hR (List.mem_cons_of_mem _ List.mem_cons_self)
  exact hB r2 hr2 G2 (by omega) (fun j hj => absurd hj (by omega))
theorem y48_E3_1 {L : Nat} {xs : Nat → Int32} (hL : L ≤ 3584) {y0 : Int} (hB : yb48B L xs y0) : y0 = -3 → yzG L xs yt48_E3 ((.var 384, 0, 60000) :: (.var 320, 1, 1) :: yF48_E3) := by
  intro he r hr H
  refine yz_run hL yq48_E3_1 hr H (xcut_s fun c hc r2 G2 hR => ?_)
  have hr2 : yzr L xs r2 := fun i hi => by rw [hR.2.2.2 i hi]; exact hr i hi
  rw [List.mem_singleton] at hc
  subst hc
  have a1048960 : r2 1048960 = (0 : Int) := yas hR List.mem_cons_self
  have a1049153 : r2 1049153 = (-3 : Int) := yas hR (List.mem_cons_of_mem _ List.mem_cons_self)
  exact hB r2 hr2 G2 (by omega) (fun j hj => absurd hj (by omega))
theorem y48_E3_2 {L : Nat} {xs : Nat → Int32} (hL : L ≤ 3584) {y0 : Int} (hB : yb48B L xs y0) : y0 = -3 → yzG L xs yt48_E3 ((.var 384, 0, 0) :: (.var 320, 2, 2) :: yF48_E3) := by
  intro he r hr H
  refine yz_run hL yq48_E3_2 hr H (xcut_s fun c hc r2 G2 hR => ?_)
  have hr2 : yzr L xs r2 := fun i hi => by rw [hR.2.2.2 i hi]; exact hr i hi
  rw [List.mem_singleton] at hc
  subst hc
  have a1048960 : r2 1048960 = (0 : Int) := yas hR List.mem_cons_self
  have a1049153 : r2 1049153 = (-3 : Int) := yas hR (List.mem_cons_of_mem _ List.mem_cons_self)
  exact hB r2 hr2 G2 (by omega) (fun j hj => absurd hj (by omega))
theorem y48_E3_3 {L : Nat} {xs : Nat → Int32} (hL : L ≤ 3584) {y0 : Int} (hB : yb48B L xs y0) : y0 = -3 → yzG L xs yt48_E3 ((.var 384, 1, 2) :: (.var 320, 3, 3) :: yF48_E3) := by
  intro he r hr H
  refine yz_run hL yq48_E3_3 hr H (xcut_s fun c hc r2 G2 hR => ?_)
  have hr2 : yzr L xs r2 := fun i hi => by rw [hR.2.2.2 i hi]; exact hr i hi
  rw [List.mem_singleton] at hc
  subst hc
  have a1048960 : r2 1048960 = (0 : Int) := yas hR List.mem_cons_self
  have a1049153 : r2 1049153 = (-3 : Int) := yas hR (List.mem_cons_of_mem _ List.mem_cons_self)
  exact hB r2 hr2 G2 (by omega) (fun j hj => absurd hj (by omega))
theorem yE48 {L : Nat} {xs : Nat → Int32} {y0 : Int} (hB : yb48B L xs y0) (h : y0 = 0) : yzG L xs ye48.1 ye48.2.2.2.1 := by
  intro r hr H
  have h0 : 0 ≤ r 1049153 ∧ r 1049153 ≤ 0 := H.2 _ List.mem_cons_self
  have h1 : 0 ≤ r 1048960 ∧ r 1048960 ≤ 0 := H.2 _ (List.mem_cons_of_mem _ List.mem_cons_self)
  exact hB r hr ⟨H.1, fun q hq => H.2 q (List.mem_cons_of_mem _ (List.mem_cons_of_mem _ hq))⟩ (by omega) (fun j hj => absurd hj (by omega))
theorem yL48e0_1 {L : Nat} {xs : Nat → Int32} (hL : L ≤ 3584) (he : yzG L xs ye48.1 ye48.2.2.2.1) : ∀ g ∈ [yg48e0_1], yzG L xs g.1.1 g.1.2.2.2.1 := yz_loop hL (ext := [ye48]) (by
  intro c hc
  simp only [List.mem_cons, List.not_mem_nil, or_false] at hc
  rcases hc with rfl
  · exact he) (by decide) (by
  intro g hg
  simp only [List.mem_cons, List.not_mem_nil, or_false] at hg
  rcases hg with rfl
  · exact yq48e0_h1)
theorem yH48e0_1 {L : Nat} {xs : Nat → Int32} (hL : L ≤ 3584) (he : yzG L xs ye48.1 ye48.2.2.2.1) : yzG L xs yg48e0_1.1.1 yg48e0_1.1.2.2.2.1 := yL48e0_1 hL he _ List.mem_cons_self
theorem yL48e0_0 {L : Nat} {xs : Nat → Int32} (hL : L ≤ 3584) (he : yzG L xs ye48.1 ye48.2.2.2.1) : ∀ g ∈ [yg48e0_0], yzG L xs g.1.1 g.1.2.2.2.1 := yz_loop hL (ext := [yg48e0_1.1]) (by
  intro c hc
  simp only [List.mem_cons, List.not_mem_nil, or_false] at hc
  rcases hc with rfl
  · exact yH48e0_1 hL he) (by decide) (by
  intro g hg
  simp only [List.mem_cons, List.not_mem_nil, or_false] at hg
  rcases hg with rfl
  · exact yq48e0_h0)
theorem yH48e0_0 {L : Nat} {xs : Nat → Int32} (hL : L ≤ 3584) (he : yzG L xs ye48.1 ye48.2.2.2.1) : yzG L xs yg48e0_0.1.1 yg48e0_0.1.2.2.2.1 := yL48e0_0 hL he _ List.mem_cons_self
theorem y48_E0_0 {L : Nat} {xs : Nat → Int32} (hL : L ≤ 3584) {y0 : Int} (hB : yb48B L xs y0) : y0 = 0 → yzG L xs yt48_E0 ((.var 384, 0, 3) :: (.var 320, 0, 0) :: yF48_E0) := by
  intro h
  have he := yE48 hB h
  refine yz_to hL yq48e0_s (fun c hc => ?_)
  simp only [List.mem_cons, List.not_mem_nil, or_false] at hc
  rcases hc with rfl
  · exact yH48e0_0 hL he
theorem yL48e1_1 {L : Nat} {xs : Nat → Int32} (hL : L ≤ 3584) (he : yzG L xs ye48.1 ye48.2.2.2.1) : ∀ g ∈ [yg48e1_1], yzG L xs g.1.1 g.1.2.2.2.1 := yz_loop hL (ext := [ye48]) (by
  intro c hc
  simp only [List.mem_cons, List.not_mem_nil, or_false] at hc
  rcases hc with rfl
  · exact he) (by decide) (by
  intro g hg
  simp only [List.mem_cons, List.not_mem_nil, or_false] at hg
  rcases hg with rfl
  · exact yq48e1_h1)
theorem yH48e1_1 {L : Nat} {xs : Nat → Int32} (hL : L ≤ 3584) (he : yzG L xs ye48.1 ye48.2.2.2.1) : yzG L xs yg48e1_1.1.1 yg48e1_1.1.2.2.2.1 := yL48e1_1 hL he _ List.mem_cons_self
theorem yL48e1_0 {L : Nat} {xs : Nat → Int32} (hL : L ≤ 3584) (he : yzG L xs ye48.1 ye48.2.2.2.1) : ∀ g ∈ [yg48e1_0], yzG L xs g.1.1 g.1.2.2.2.1 := yz_loop hL (ext := [yg48e1_1.1]) (by
  intro c hc
  simp only [List.mem_cons, List.not_mem_nil, or_false] at hc
  rcases hc with rfl
  · exact yH48e1_1 hL he) (by decide) (by
  intro g hg
  simp only [List.mem_cons, List.not_mem_nil, or_false] at hg
  rcases hg with rfl
  · exact yq48e1_h0)
theorem yH48e1_0 {L : Nat} {xs : Nat → Int32} (hL : L ≤ 3584) (he : yzG L xs ye48.1 ye48.2.2.2.1) : yzG L xs yg48e1_0.1.1 yg48e1_0.1.2.2.2.1 := yL48e1_0 hL he _ List.mem_cons_self
theorem y48_E0_1 {L : Nat} {xs : Nat → Int32} (hL : L ≤ 3584) {y0 : Int} (hB : yb48B L xs y0) : y0 = 0 → yzG L xs yt48_E0 ((.var 384, 0, 60000) :: (.var 320, 1, 1) :: yF48_E0) := by
  intro h
  have he := yE48 hB h
  refine yz_to hL yq48e1_s (fun c hc => ?_)
  simp only [List.mem_cons, List.not_mem_nil, or_false] at hc
  rcases hc with rfl
  · exact yH48e1_0 hL he
theorem yL48e2_1 {L : Nat} {xs : Nat → Int32} (hL : L ≤ 3584) (he : yzG L xs ye48.1 ye48.2.2.2.1) : ∀ g ∈ [yg48e2_1], yzG L xs g.1.1 g.1.2.2.2.1 := yz_loop hL (ext := [ye48]) (by
  intro c hc
  simp only [List.mem_cons, List.not_mem_nil, or_false] at hc
  rcases hc with rfl
  · exact he) (by decide) (by
  intro g hg
  simp only [List.mem_cons, List.not_mem_nil, or_false] at hg
  rcases hg with rfl
  · exact yq48e2_h1)
theorem yH48e2_1 {L : Nat} {xs : Nat → Int32} (hL : L ≤ 3584) (he : yzG L xs ye48.1 ye48.2.2.2.1) : yzG L xs yg48e2_1.1.1 yg48e2_1.1.2.2.2.1 := yL48e2_1 hL he _ List.mem_cons_self
theorem yL48e2_0 {L : Nat} {xs : Nat → Int32} (hL : L ≤ 3584) (he : yzG L xs ye48.1 ye48.2.2.2.1) : ∀ g ∈ [yg48e2_0], yzG L xs g.1.1 g.1.2.2.2.1 := yz_loop hL (ext := [yg48e2_1.1]) (by
  intro c hc
  simp only [List.mem_cons, List.not_mem_nil, or_false] at hc
  rcases hc with rfl
  · exact yH48e2_1 hL he) (by decide) (by
  intro g hg
  simp only [List.mem_cons, List.not_mem_nil, or_false] at hg
  rcases hg with rfl
  · exact yq48e2_h0)
theorem yH48e2_0 {L : Nat} {xs : Nat → Int32} (hL : L ≤ 3584) (he : yzG L xs ye48.1 ye48.2.2.2.1) : yzG L xs yg48e2_0.1.1 yg48e2_0.1.2.2.2.1 := yL48e2_0 hL he _ List.mem_cons_self
theorem y48_E0_2 {L : Nat} {xs : Nat → Int32} (hL : L ≤ 3584) {y0 : Int} (hB : yb48B L xs y0) : y0 = 0 → yzG L xs yt48_E0 ((.var 384, 0, 0) :: (.var 320, 2, 2) :: yF48_E0) := by
  intro h
  have he := yE48 hB h
  refine yz_to hL yq48e2_s (fun c hc => ?_)
  simp only [List.mem_cons, List.not_mem_nil, or_false] at hc
  rcases hc with rfl
  · exact yH48e2_0 hL he
theorem yL48e3_1 {L : Nat} {xs : Nat → Int32} (hL : L ≤ 3584) (he : yzG L xs ye48.1 ye48.2.2.2.1) : ∀ g ∈ [yg48e3_1], yzG L xs g.1.1 g.1.2.2.2.1 := yz_loop hL (ext := [ye48]) (by
  intro c hc
  simp only [List.mem_cons, List.not_mem_nil, or_false] at hc
  rcases hc with rfl
  · exact he) (by decide) (by
  intro g hg
  simp only [List.mem_cons, List.not_mem_nil, or_false] at hg
  rcases hg with rfl
  · exact yq48e3_h1)
theorem yH48e3_1 {L : Nat} {xs : Nat → Int32} (hL : L ≤ 3584) (he : yzG L xs ye48.1 ye48.2.2.2.1) : yzG L xs yg48e3_1.1.1 yg48e3_1.1.2.2.2.1 := yL48e3_1 hL he _ List.mem_cons_self
theorem yL48e3_0 {L : Nat} {xs : Nat → Int32} (hL : L ≤ 3584) (he : yzG L xs ye48.1 ye48.2.2.2.1) : ∀ g ∈ [yg48e3_0], yzG L xs g.1.1 g.1.2.2.2.1 := yz_loop hL (ext := [yg48e3_1.1]) (by
  intro c hc
  simp only [List.mem_cons, List.not_mem_nil, or_false] at hc
  rcases hc with rfl
  · exact yH48e3_1 hL he) (by decide) (by
  intro g hg
  simp only [List.mem_cons, List.not_mem_nil, or_false] at hg
  rcases hg with rfl
  · exact yq48e3_h0)
theorem yH48e3_0 {L : Nat} {xs : Nat → Int32} (hL : L ≤ 3584) (he : yzG L xs ye48.1 ye48.2.2.2.1) : yzG L xs yg48e3_0.1.1 yg48e3_0.1.2.2.2.1 := yL48e3_0 hL he _ List.mem_cons_self
theorem y48_E0_3 {L : Nat} {xs : Nat → Int32} (hL : L ≤ 3584) {y0 : Int} (hB : yb48B L xs y0) : y0 = 0 → yzG L xs yt48_E0 ((.var 384, 1, 2) :: (.var 320, 3, 3) :: yF48_E0) := by
  intro h
  have he := yE48 hB h
  refine yz_to hL yq48e3_s (fun c hc => ?_)
  simp only [List.mem_cons, List.not_mem_nil, or_false] at hc
  rcases hc with rfl
  · exact yH48e3_0 hL he
theorem yp_48 {L : Nat} {xs : Nat → Int32} (hL : L ≤ 3584) : yzG L xs yxs_11 [(.pow (.add (.var 64) (.num 63)) 17, 48, 48), (.pow (.add (.var 64) (.num 63)) 17, 0, 54), (.var 0, 7, 7), (.var 0, 0, 7)] := by
  obtain ⟨n, hn⟩ : ∃ n : Nat, (n : Int) = 20000 := ⟨20000, rfl⟩
  obtain ⟨y0, hy⟩ : ∃ y0, yq (yb48 (yxr L xs 128) n 8 (yb48x L xs) 0 (fun _ => -1)) y0 := ⟨_, yq_r _⟩
  have ra := y48_allR (L := L) (xs := xs) hL (y0 := y0) (y48_X0 hL) (y48_X2 hL) (y48_X3 hL) n
  have hB : yb48B L xs y0 := y48_B hL hn ra.2.2.2.2.2.2.2.2 hy
  intro r hr H
  have m1 : r 128 = yxr L xs 128 := hr 128 (by decide)
  refine yz_run hL yq48_S hr H (xcut_s fun c hc r2 G2 hR => ?_)
  have hr2 : yzr L xs r2 := fun i hi => by rw [hR.2.2.2 i hi]; exact hr i hi
  have aw : r2 128 = yxr L xs 128 := (hR.2.2.2 128 (by decide)).trans m1
  simp only [List.mem_cons, List.not_mem_nil, or_false] at hc
  rcases hc with rfl | rfl | rfl | rfl
  · have hw : 1 ≤ r2 128 ∧ r2 128 ≤ 16 := xbd_s G2 (e := .var 128) (lo := 1) (hi := 16) (by decide +kernel)
    have a1048640 : r2 1048640 = (0 : Int) := yas hR (List.mem_cons_of_mem _ List.mem_cons_self)
    have a1048704 : r2 1048704 = (0 : Int) := yas hR (List.mem_cons_of_mem _ (List.mem_cons_of_mem _ List.mem_cons_self))
    have fS : ∀ j : Nat, j < 16 → r2 (4194310 + 64 * j) = (xct r (.branch 0 (.branch 0 (.branch 0 (.branch 0 (.branch 0 (.leaf (0, .num (-1))) (.leaf (0, .num 0))) (.branch 0 (.leaf (0, .num (-1))) (.leaf (0, .num 0)))) (.branch 0 (.branch 0 (.leaf (0, .num (-1))) (.leaf (0, .num 0))) (.branch 0 (.leaf (0, .num (-1))) (.leaf (0, .num 0))))) (.branch 0 (.branch 0 (.branch 0 (.leaf (0, .num (-1))) (.leaf (0, .num 0))) (.branch 0 (.leaf (0, .num (-1))) (.leaf (0, .num 0)))) (.branch 0 (.branch 0 (.leaf (0, .num (-1))) (.leaf (0, .num 0))) (.branch 0 (.leaf (0, .num (-1))) (.leaf (0, .num 0)))))) (.branch 0 (.branch 0 (.branch 0 (.branch 0 (.leaf (0, .num (-1))) (.leaf (0, .num 0))) (.branch 0 (.leaf (0, .num (-1))) (.leaf (0, .num 0)))) (.branch 0 (.branch 0 (.leaf (0, .num (-1))) (.leaf (0, .num 0))) (.branch 0 (.leaf (0, .num (-1))) (.leaf (0, .num 0))))) (.branch 0 (.branch 0 (.branch 0 (.leaf (0, .num (-1))) (.leaf (0, .num 0))) (.branch 0 (.leaf (0, .num (-1))) (.leaf (0, .num 0)))) (.branch 0 (.branch 0 (.leaf (0, .num (-1))) (.leaf (0, .num 0))) (.branch 0 (.leaf (0, .num (-1))) (.leaf (0, .num 0))))))) j).2 := fun j hj => hR.2.1 _ List.mem_cons_self (4194310, 16, 217) List.mem_cons_self rfl j hj
    have fD : ∀ j : Nat, j < 8 → r2 (4195394 + 64 * j) = (xct r (.branch 0 (.branch 0 (.branch 0 (.branch 0 (.leaf (0, .num 0)) (.leaf (0, .num 0))) (.branch 0 (.leaf (0, .num 0)) (.leaf (0, .num 0)))) (.branch 0 (.branch 0 (.leaf (0, .num 0)) (.leaf (0, .num 0))) (.branch 0 (.leaf (0, .num 0)) (.leaf (0, .num 0))))) (.branch 0 (.branch 0 (.branch 0 (.leaf (0, .num 0)) (.leaf (0, .num 0))) (.branch 0 (.leaf (0, .num 0)) (.leaf (0, .num 0)))) (.branch 0 (.branch 0 (.leaf (0, .num 0)) (.leaf (0, .num 0))) (.branch 0 (.leaf (0, .num 0)) (.leaf (0, .num 0)))))) j).2 := fun j hj => hR.2.1 _ (List.mem_cons_of_mem _ List.mem_cons_self) (4195394, 8, 207) (List.mem_cons_of_mem _ List.mem_cons_self) rfl j hj
    have t0 : (0 : Int) ≤ r 320 ∧ r 320 ≤ (0 : Int) := hR.2.2.1 _ List.mem_cons_self
    have t1 : (0 : Int) ≤ r 384 ∧ r 384 ≤ (3 : Int) := hR.2.2.1 _ (List.mem_cons_of_mem _ List.mem_cons_self)
    have q1 := hr 320 (by decide)
    have q2 := hr 384 (by decide)
    have u1 : 0 ≤ yxr L xs 320 ∧ yxr L xs 320 ≤ 0 := by omega
    have u2 : 0 ≤ yxr L xs 384 ∧ yxr L xs 384 ≤ 3 := by omega
    have ca := y48_allC hL (y0 := y0) (yb48_F (y48_E0_0 hL hB) u1 u2) (yb48_F (y48_E2_0 hL hB) u1 u2) (yb48_F (y48_E3_0 hL hB) u1 u2) n
    have gS : ∀ k : Nat, (k : Int) < yxr L xs 128 → r2 (4194310 + 64 * k) = -1 := fun k hk => (fS k (by omega)).trans (yb48_d16 r k (by omega))
    have gD : ∀ s : Nat, s < 8 → r2 (4195394 + 64 * s) = 0 := fun s hs => (fD s (by omega)).trans (yb48_d17 r s hs)
    have gT : r2 1048640 + (n : Int) = 20000 := by omega
    have a1048577 : r2 1048577 = xop 34 (xop 49 (r 192) ((32 : Int))) (xop 33 (r 256) ((4294967295 : Int))) := (yas hR List.mem_cons_self).trans (yb48x_d r)
    exact ca.2.2.2.2.2.2.2.2 r2 (yxr L xs 128) (yb48x L xs) 0 (fun _ => -1) (fun _ => 0) hr2 G2 trivial ⟨aw, a1048577.trans (by unfold yb48x; rw [hr 192 (by decide), hr 256 (by decide)]), a1048704, gS, gD, yb48J_0⟩ gT hy
  · have hw : 1 ≤ r2 128 ∧ r2 128 ≤ 16 := xbd_s G2 (e := .var 128) (lo := 1) (hi := 16) (by decide +kernel)
    have a1048640 : r2 1048640 = (0 : Int) := yas hR (List.mem_cons_of_mem _ List.mem_cons_self)
    have a1048704 : r2 1048704 = (0 : Int) := yas hR (List.mem_cons_of_mem _ (List.mem_cons_of_mem _ List.mem_cons_self))
    have fS : ∀ j : Nat, j < 16 → r2 (4194310 + 64 * j) = (xct r (.branch 0 (.branch 0 (.branch 0 (.branch 0 (.branch 0 (.leaf (0, .num (-1))) (.leaf (0, .num 0))) (.branch 0 (.leaf (0, .num (-1))) (.leaf (0, .num 0)))) (.branch 0 (.branch 0 (.leaf (0, .num (-1))) (.leaf (0, .num 0))) (.branch 0 (.leaf (0, .num (-1))) (.leaf (0, .num 0))))) (.branch 0 (.branch 0 (.branch 0 (.leaf (0, .num (-1))) (.leaf (0, .num 0))) (.branch 0 (.leaf (0, .num (-1))) (.leaf (0, .num 0)))) (.branch 0 (.branch 0 (.leaf (0, .num (-1))) (.leaf (0, .num 0))) (.branch 0 (.leaf (0, .num (-1))) (.leaf (0, .num 0)))))) (.branch 0 (.branch 0 (.branch 0 (.branch 0 (.leaf (0, .num (-1))) (.leaf (0, .num 0))) (.branch 0 (.leaf (0, .num (-1))) (.leaf (0, .num 0)))) (.branch 0 (.branch 0 (.leaf (0, .num (-1))) (.leaf (0, .num 0))) (.branch 0 (.leaf (0, .num (-1))) (.leaf (0, .num 0))))) (.branch 0 (.branch 0 (.branch 0 (.leaf (0, .num (-1))) (.leaf (0, .num 0))) (.branch 0 (.leaf (0, .num (-1))) (.leaf (0, .num 0)))) (.branch 0 (.branch 0 (.leaf (0, .num (-1))) (.leaf (0, .num 0))) (.branch 0 (.leaf (0, .num (-1))) (.leaf (0, .num 0))))))) j).2 := fun j hj => hR.2.1 _ List.mem_cons_self (4194310, 16, 217) List.mem_cons_self rfl j hj
    have fD : ∀ j : Nat, j < 8 → r2 (4195394 + 64 * j) = (xct r (.branch 0 (.branch 0 (.branch 0 (.branch 0 (.leaf (0, .num 0)) (.leaf (0, .num 0))) (.branch 0 (.leaf (0, .num 0)) (.leaf (0, .num 0)))) (.branch 0 (.branch 0 (.leaf (0, .num 0)) (.leaf (0, .num 0))) (.branch 0 (.leaf (0, .num 0)) (.leaf (0, .num 0))))) (.branch 0 (.branch 0 (.branch 0 (.leaf (0, .num 0)) (.leaf (0, .num 0))) (.branch 0 (.leaf (0, .num 0)) (.leaf (0, .num 0)))) (.branch 0 (.branch 0 (.leaf (0, .num 0)) (.leaf (0, .num 0))) (.branch 0 (.leaf (0, .num 0)) (.leaf (0, .num 0)))))) j).2 := fun j hj => hR.2.1 _ (List.mem_cons_of_mem _ List.mem_cons_self) (4195394, 8, 207) (List.mem_cons_of_mem _ List.mem_cons_self) rfl j hj
    have t0 : (1 : Int) ≤ r 320 ∧ r 320 ≤ (1 : Int) := hR.2.2.1 _ List.mem_cons_self
    have t1 : (0 : Int) ≤ r 384 ∧ r 384 ≤ (60000 : Int) := hR.2.2.1 _ (List.mem_cons_of_mem _ List.mem_cons_self)
    have q1 := hr 320 (by decide)
    have q2 := hr 384 (by decide)
    have u1 : 1 ≤ yxr L xs 320 ∧ yxr L xs 320 ≤ 1 := by omega
    have u2 : 0 ≤ yxr L xs 384 ∧ yxr L xs 384 ≤ 60000 := by omega
    have ca := y48_allC hL (y0 := y0) (yb48_F (y48_E0_1 hL hB) u1 u2) (yb48_F (y48_E2_1 hL hB) u1 u2) (yb48_F (y48_E3_1 hL hB) u1 u2) n
    have gS : ∀ k : Nat, (k : Int) < yxr L xs 128 → r2 (4194310 + 64 * k) = -1 := fun k hk => (fS k (by omega)).trans (yb48_d16 r k (by omega))
    have gD : ∀ s : Nat, s < 8 → r2 (4195394 + 64 * s) = 0 := fun s hs => (fD s (by omega)).trans (yb48_d17 r s hs)
    have gT : r2 1048640 + (n : Int) = 20000 := by omega
    have a1048577 : r2 1048577 = xop 34 (xop 49 (r 192) ((32 : Int))) (xop 33 (r 256) ((4294967295 : Int))) := (yas hR List.mem_cons_self).trans (yb48x_d r)
    exact ca.2.2.2.2.2.2.2.2 r2 (yxr L xs 128) (yb48x L xs) 0 (fun _ => -1) (fun _ => 0) hr2 G2 trivial ⟨aw, a1048577.trans (by unfold yb48x; rw [hr 192 (by decide), hr 256 (by decide)]), a1048704, gS, gD, yb48J_0⟩ gT hy
  · have hw : 1 ≤ r2 128 ∧ r2 128 ≤ 16 := xbd_s G2 (e := .var 128) (lo := 1) (hi := 16) (by decide +kernel)
    have a1048640 : r2 1048640 = (0 : Int) := yas hR (List.mem_cons_of_mem _ List.mem_cons_self)
    have a1048704 : r2 1048704 = (0 : Int) := yas hR (List.mem_cons_of_mem _ (List.mem_cons_of_mem _ List.mem_cons_self))
    have fS : ∀ j : Nat, j < 16 → r2 (4194310 + 64 * j) = (xct r (.branch 0 (.branch 0 (.branch 0 (.branch 0 (.branch 0 (.leaf (0, .num (-1))) (.leaf (0, .num 0))) (.branch 0 (.leaf (0, .num (-1))) (.leaf (0, .num 0)))) (.branch 0 (.branch 0 (.leaf (0, .num (-1))) (.leaf (0, .num 0))) (.branch 0 (.leaf (0, .num (-1))) (.leaf (0, .num 0))))) (.branch 0 (.branch 0 (.branch 0 (.leaf (0, .num (-1))) (.leaf (0, .num 0))) (.branch 0 (.leaf (0, .num (-1))) (.leaf (0, .num 0)))) (.branch 0 (.branch 0 (.leaf (0, .num (-1))) (.leaf (0, .num 0))) (.branch 0 (.leaf (0, .num (-1))) (.leaf (0, .num 0)))))) (.branch 0 (.branch 0 (.branch 0 (.branch 0 (.leaf (0, .num (-1))) (.leaf (0, .num 0))) (.branch 0 (.leaf (0, .num (-1))) (.leaf (0, .num 0)))) (.branch 0 (.branch 0 (.leaf (0, .num (-1))) (.leaf (0, .num 0))) (.branch 0 (.leaf (0, .num (-1))) (.leaf (0, .num 0))))) (.branch 0 (.branch 0 (.branch 0 (.leaf (0, .num (-1))) (.leaf (0, .num 0))) (.branch 0 (.leaf (0, .num (-1))) (.leaf (0, .num 0)))) (.branch 0 (.branch 0 (.leaf (0, .num (-1))) (.leaf (0, .num 0))) (.branch 0 (.leaf (0, .num (-1))) (.leaf (0, .num 0))))))) j).2 := fun j hj => hR.2.1 _ List.mem_cons_self (4194310, 16, 217) List.mem_cons_self rfl j hj
    have fD : ∀ j : Nat, j < 8 → r2 (4195394 + 64 * j) = (xct r (.branch 0 (.branch 0 (.branch 0 (.branch 0 (.leaf (0, .num 0)) (.leaf (0, .num 0))) (.branch 0 (.leaf (0, .num 0)) (.leaf (0, .num 0)))) (.branch 0 (.branch 0 (.leaf (0, .num 0)) (.leaf (0, .num 0))) (.branch 0 (.leaf (0, .num 0)) (.leaf (0, .num 0))))) (.branch 0 (.branch 0 (.branch 0 (.leaf (0, .num 0)) (.leaf (0, .num 0))) (.branch 0 (.leaf (0, .num 0)) (.leaf (0, .num 0)))) (.branch 0 (.branch 0 (.leaf (0, .num 0)) (.leaf (0, .num 0))) (.branch 0 (.leaf (0, .num 0)) (.leaf (0, .num 0)))))) j).2 := fun j hj => hR.2.1 _ (List.mem_cons_of_mem _ List.mem_cons_self) (4195394, 8, 207) (List.mem_cons_of_mem _ List.mem_cons_self) rfl j hj
    have t0 : (2 : Int) ≤ r 320 ∧ r 320 ≤ (2 : Int) := hR.2.2.1 _ List.mem_cons_self
    have t1 : (0 : Int) ≤ r 384 ∧ r 384 ≤ (0 : Int) := hR.2.2.1 _ (List.mem_cons_of_mem _ List.mem_cons_self)
    have q1 := hr 320 (by decide)
    have q2 := hr 384 (by decide)
    have u1 : 2 ≤ yxr L xs 320 ∧ yxr L xs 320 ≤ 2 := by omega
    have u2 : 0 ≤ yxr L xs 384 ∧ yxr L xs 384 ≤ 0 := by omega
    have ca := y48_allC hL (y0 := y0) (yb48_F (y48_E0_2 hL hB) u1 u2) (yb48_F (y48_E2_2 hL hB) u1 u2) (yb48_F (y48_E3_2 hL hB) u1 u2) n
    have gS : ∀ k : Nat, (k : Int) < yxr L xs 128 → r2 (4194310 + 64 * k) = -1 := fun k hk => (fS k (by omega)).trans (yb48_d16 r k (by omega))
    have gD : ∀ s : Nat, s < 8 → r2 (4195394 + 64 * s) = 0 := fun s hs => (fD s (by omega)).trans (yb48_d17 r s hs)
    have gT : r2 1048640 + (n : Int) = 20000 := by omega
    have a1048577 : r2 1048577 = xop 34 (xop 49 (r 192) ((32 : Int))) (xop 33 (r 256) ((4294967295 : Int))) := (yas hR List.mem_cons_self).trans (yb48x_d r)
    exact ca.2.2.2.2.2.2.2.2 r2 (yxr L xs 128) (yb48x L xs) 0 (fun _ => -1) (fun _ => 0) hr2 G2 trivial ⟨aw, a1048577.trans (by unfold yb48x; rw [hr 192 (by decide), hr 256 (by decide)]), a1048704, gS, gD, yb48J_0⟩ gT hy
  · have hw : 1 ≤ r2 128 ∧ r2 128 ≤ 16 := xbd_s G2 (e := .var 128) (lo := 1) (hi := 16) (by decide +kernel)
    have a1048640 : r2 1048640 = (0 : Int) := yas hR (List.mem_cons_of_mem _ List.mem_cons_self)
    have a1048704 : r2 1048704 = (0 : Int) := yas hR (List.mem_cons_of_mem _ (List.mem_cons_of_mem _ List.mem_cons_self))
    have fS : ∀ j : Nat, j < 16 → r2 (4194310 + 64 * j) = (xct r (.branch 0 (.branch 0 (.branch 0 (.branch 0 (.branch 0 (.leaf (0, .num (-1))) (.leaf (0, .num 0))) (.branch 0 (.leaf (0, .num (-1))) (.leaf (0, .num 0)))) (.branch 0 (.branch 0 (.leaf (0, .num (-1))) (.leaf (0, .num 0))) (.branch 0 (.leaf (0, .num (-1))) (.leaf (0, .num 0))))) (.branch 0 (.branch 0 (.branch 0 (.leaf (0, .num (-1))) (.leaf (0, .num 0))) (.branch 0 (.leaf (0, .num (-1))) (.leaf (0, .num 0)))) (.branch 0 (.branch 0 (.leaf (0, .num (-1))) (.leaf (0, .num 0))) (.branch 0 (.leaf (0, .num (-1))) (.leaf (0, .num 0)))))) (.branch 0 (.branch 0 (.branch 0 (.branch 0 (.leaf (0, .num (-1))) (.leaf (0, .num 0))) (.branch 0 (.leaf (0, .num (-1))) (.leaf (0, .num 0)))) (.branch 0 (.branch 0 (.leaf (0, .num (-1))) (.leaf (0, .num 0))) (.branch 0 (.leaf (0, .num (-1))) (.leaf (0, .num 0))))) (.branch 0 (.branch 0 (.branch 0 (.leaf (0, .num (-1))) (.leaf (0, .num 0))) (.branch 0 (.leaf (0, .num (-1))) (.leaf (0, .num 0)))) (.branch 0 (.branch 0 (.leaf (0, .num (-1))) (.leaf (0, .num 0))) (.branch 0 (.leaf (0, .num (-1))) (.leaf (0, .num 0))))))) j).2 := fun j hj => hR.2.1 _ List.mem_cons_self (4194310, 16, 217) List.mem_cons_self rfl j hj
    have fD : ∀ j : Nat, j < 8 → r2 (4195394 + 64 * j) = (xct r (.branch 0 (.branch 0 (.branch 0 (.branch 0 (.leaf (0, .num 0)) (.leaf (0, .num 0))) (.branch 0 (.leaf (0, .num 0)) (.leaf (0, .num 0)))) (.branch 0 (.branch 0 (.leaf (0, .num 0)) (.leaf (0, .num 0))) (.branch 0 (.leaf (0, .num 0)) (.leaf (0, .num 0))))) (.branch 0 (.branch 0 (.branch 0 (.leaf (0, .num 0)) (.leaf (0, .num 0))) (.branch 0 (.leaf (0, .num 0)) (.leaf (0, .num 0)))) (.branch 0 (.branch 0 (.leaf (0, .num 0)) (.leaf (0, .num 0))) (.branch 0 (.leaf (0, .num 0)) (.leaf (0, .num 0)))))) j).2 := fun j hj => hR.2.1 _ (List.mem_cons_of_mem _ List.mem_cons_self) (4195394, 8, 207) (List.mem_cons_of_mem _ List.mem_cons_self) rfl j hj
    have t0 : (3 : Int) ≤ r 320 ∧ r 320 ≤ (3 : Int) := hR.2.2.1 _ List.mem_cons_self
    have t1 : (1 : Int) ≤ r 384 ∧ r 384 ≤ (2 : Int) := hR.2.2.1 _ (List.mem_cons_of_mem _ List.mem_cons_self)
    have q1 := hr 320 (by decide)
    have q2 := hr 384 (by decide)
    have u1 : 3 ≤ yxr L xs 320 ∧ yxr L xs 320 ≤ 3 := by omega
    have u2 : 1 ≤ yxr L xs 384 ∧ yxr L xs 384 ≤ 2 := by omega
    have ca := y48_allC hL (y0 := y0) (yb48_F (y48_E0_3 hL hB) u1 u2) (yb48_F (y48_E2_3 hL hB) u1 u2) (yb48_F (y48_E3_3 hL hB) u1 u2) n
    have gS : ∀ k : Nat, (k : Int) < yxr L xs 128 → r2 (4194310 + 64 * k) = -1 := fun k hk => (fS k (by omega)).trans (yb48_d16 r k (by omega))
    have gD : ∀ s : Nat, s < 8 → r2 (4195394 + 64 * s) = 0 := fun s hs => (fD s (by omega)).trans (yb48_d17 r s hs)
    have gT : r2 1048640 + (n : Int) = 20000 := by omega
    have a1048577 : r2 1048577 = xop 34 (xop 49 (r 192) ((32 : Int))) (xop 33 (r 256) ((4294967295 : Int))) := (yas hR List.mem_cons_self).trans (yb48x_d r)
    exact ca.2.2.2.2.2.2.2.2 r2 (yxr L xs 128) (yb48x L xs) 0 (fun _ => -1) (fun _ => 0) hr2 G2 trivial ⟨aw, a1048577.trans (by unfold yb48x; rw [hr 192 (by decide), hr 256 (by decide)]), a1048704, gS, gD, yb48J_0⟩ gT hy
end YR48
