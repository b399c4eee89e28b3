noncomputable section YTB
/-! SYMBOLIC RUNS: the state reached is a given one; the arrays that were there before -/
variable {T : ycT} {r : Nat → Int}
def xveq (a b : xV) : Bool := Nat.beq a.1 b.1 && xeq a.2 b.2
theorem xveq_s {a b : xV} (h : xveq a b = true) : a = b := by
  unfold xveq at h
  rw [Bool.and_eq_true] at h
  obtain ⟨a1, a2⟩ := a
  obtain ⟨b1, b2⟩ := b
  have e1 : a1 = b1 := Nat.eq_of_beq_eq_true h.1
  have e2 : a2 = b2 := xeq_s h.2
  rw [e1, e2]
/-- trees that hold the same at the places below n, whatever their shape -/
theorem xpl {i st j : Nat} (h0 : 0 < st) (h : j % st = i) : (j / st % 2 = 0 → j % (st * 2) = i) ∧ (j / st % 2 ≠ 0 → j % (st * 2) = i + st) ∧ j / st / 2 = j / (st * 2) := by
  have a := Nat.mod_mul (x := j) (a := st) (b := 2)
  refine ⟨fun e => ?_, fun e => ?_, Nat.div_div_eq_div_mul j st 2⟩
  · rw [a, h, e]; omega
  · rw [a, h, show j / st % 2 = 1 by omega]; omega
theorem xpi {i st j : Nat} (h : j % st = i) : i ≤ j := by
  rw [← h]; exact Nat.mod_le _ _
def xtlf {α : Type} (f : α → α → Bool) (n : Nat) (a : α) : Nat → Nat → xT α → Bool
  | i, _, .leaf b => Nat.ble n i || f a b
  | i, st, .branch _ l r => Nat.ble n i || (xtlf f n a i (st * 2) l && xtlf f n a (i + st) (st * 2) r)
def xteq {α : Type} (f : α → α → Bool) (n : Nat) : Nat → Nat → xT α → xT α → Bool
  | i, st, .leaf a, t => xtlf f n a i st t
  | i, st, .branch _ l r, .leaf b => xtlf (fun x y => f y x) n b i (st * 2) l && xtlf (fun x y => f y x) n b (i + st) (st * 2) r
  | i, st, .branch _ l r, .branch _ l2 r2 => Nat.ble n i || (xteq f n i (st * 2) l l2 && xteq f n (i + st) (st * 2) r r2)
theorem xtlf_s {α β : Type} {f : α → α → Bool} {φ : α → β} {a : α} {n : Nat} (hf : ∀ b, f a b = true → φ a = φ b) : ∀ (t : xT α) (i st : Nat), xtlf f n a i st t = true → 0 < st → ∀ j, j < n → j % st = i → φ a = φ (xg0 t (j / st)) := by
  intro t
  induction t with
  | leaf b =>
    intro i st h h0 j hj hi
    unfold xtlf at h
    have := xpi hi
    rw [Bool.or_eq_true, Nat.ble_eq] at h
    rcases h with h | h
    · omega
    · exact hf b h
  | branch p l r ihl ihr =>
    intro i st h h0 j hj hi
    unfold xtlf at h
    have := xpi hi
    rw [Bool.or_eq_true, Nat.ble_eq, Bool.and_eq_true] at h
    obtain ⟨p1, p2, p3⟩ := xpl h0 hi
    rcases h with h | h
    · omega
    · rw [xg0_br, p3]
      cases hb : Nat.beq (j / st % 2) 0 with
      | true => exact ihl _ _ h.1 (by omega) j hj (p1 (Nat.eq_of_beq_eq_true hb))
      | false => exact ihr _ _ h.2 (by omega) j hj (p2 (Nat.ne_of_beq_eq_false hb))
theorem xteq_s {α β : Type} {f : α → α → Bool} {φ : α → β} {n : Nat} (hf : ∀ a b, f a b = true → φ a = φ b) : ∀ (s t : xT α) (i st : Nat), xteq f n i st s t = true → 0 < st → ∀ j, j < n → j % st = i → φ (xg0 s (j / st)) = φ (xg0 t (j / st)) := by
  intro s
  induction s with
  | leaf a => intro t i st h h0 j hj hi; exact xtlf_s (fun b => hf a b) t i st h h0 j hj hi
  | branch p l r ihl ihr =>
    intro t i st h h0 j hj hi
    have := xpi hi
    obtain ⟨p1, p2, p3⟩ := xpl h0 hi
    cases t with
    | leaf b =>
      unfold xteq at h
      rw [Bool.and_eq_true] at h
      rw [xg0_br, p3]
      show _ = φ b
      cases hb : Nat.beq (j / st % 2) 0 with
      | true => exact (xtlf_s (φ := φ) (fun x hx => (hf x b hx).symm) l _ _ h.1 (by omega) j hj (p1 (Nat.eq_of_beq_eq_true hb))).symm
      | false => exact (xtlf_s (φ := φ) (fun x hx => (hf x b hx).symm) r _ _ h.2 (by omega) j hj (p2 (Nat.ne_of_beq_eq_false hb))).symm
    | branch q l2 r2 =>
      unfold xteq at h
      rw [Bool.or_eq_true, Nat.ble_eq, Bool.and_eq_true] at h
      rcases h with h | h
      · omega
      · rw [xg0_br, xg0_br, p3]
        cases hb : Nat.beq (j / st % 2) 0 with
        | true => exact ihl _ _ _ h.1 (by omega) j hj (p1 (Nat.eq_of_beq_eq_true hb))
        | false => exact ihr _ _ _ h.2 (by omega) j hj (p2 (Nat.ne_of_beq_eq_false hb))
def xceq (c d : xC) : Bool := Nat.beq c.1 d.1 && (Nat.beq c.2.1 d.2.1 && ((xisb c.2.2.2 && xisb d.2.2.2) && xteq xveq d.2.1 0 1 c.2.2.2 d.2.2.2))
theorem xceq_s {c d : xC} (h : xceq c d = true) : xdC T r c = xdC T r d := by
  unfold xceq at h
  simp only [Bool.and_eq_true] at h
  obtain ⟨c1, c2, c3, c4⟩ := c
  obtain ⟨d1, d2, d3, d4⟩ := d
  have e1 : c1 = d1 := Nat.eq_of_beq_eq_true h.1
  have e2 : c2 = d2 := Nat.eq_of_beq_eq_true h.2.1
  have e3 := xteq_s (φ := fun v : xV => v) (fun a b => xveq_s) c4 d4 0 1 h.2.2.2 (by omega)
  subst e1 e2
  show (c1, c2, _) = (c1, c2, _)
  congr 2
  funext j
  show (bif Nat.blt j c2 then xct r c4 j else _) = (bif Nat.blt j c2 then xct r d4 j else _)
  by_cases hj : j < c2
  · have e4 := e3 j hj (Nat.mod_one j)
    rw [Nat.div_one] at e4
    rw [xct_b h.2.2.1.1, xct_b h.2.2.1.2, show xg0 c4 j = xg0 d4 j from e4]
  · rw [ycblf (by omega)]; rfl
def xheq (g h : xHp) : Bool := Nat.beq g.2.1 h.2.1 && ((bif g.2.2 then h.2.2 else !h.2.2) && xteq xceq h.2.1 0 1 g.1 h.1)
theorem xheq_s {g h : xHp} (e : xheq g h = true) : xdH T r g = xdH T r h := by
  unfold xheq at e
  rw [Bool.and_eq_true, Bool.and_eq_true] at e
  obtain ⟨g1, g2, g3⟩ := g
  obtain ⟨h1, h2, h3⟩ := h
  have e1 : g2 = h2 := Nat.eq_of_beq_eq_true e.1
  have e2 : g3 = h3 := by
    have := e.2.1
    cases g3 <;> cases h3 <;> first | rfl | cases this
  have e3 := xteq_s (φ := xdC T r) (fun a b => xceq_s) g1 h1 0 1 e.2.2 (by omega)
  subst e1 e2
  show (_, g2, g3) = (_, g2, g3)
  congr 1
  funext a
  show (bif Nat.blt a g2 then xdC T r (xg0 g1 a) else _) = (bif Nat.blt a g2 then xdC T r (xg0 h1 a) else _)
  by_cases ha : a < g2
  · have e4 := e3 a ha (Nat.mod_one a)
    rw [Nat.div_one] at e4
    rw [e4]
  · rw [ycblf (by omega)]; rfl
def xlseq : List xV → List xV → Bool
  | [], [] => true
  | a :: l, b :: m => xveq a b && xlseq l m
  | _, _ => false
theorem xlseq_s : ∀ {l m : List xV}, xlseq l m = true → l = m := by
  intro l
  induction l with
  | nil => intro m h; cases m with | nil => rfl | cons b m => cases h
  | cons a l ih =>
    intro m h
    cases m with
    | nil => cases h
    | cons b m =>
      unfold xlseq at h
      rw [Bool.and_eq_true] at h
      rw [xveq_s h.1, ih h.2]
def xlveq : List (Nat × xV) → List (Nat × xV) → Bool
  | [], [] => true
  | a :: l, b :: m => Nat.beq a.1 b.1 && (xveq a.2 b.2 && xlveq l m)
  | _, _ => false
theorem xlveq_s : ∀ {l m : List (Nat × xV)}, xlveq l m = true → l = m := by
  intro l
  induction l with
  | nil => intro m h; cases m with | nil => rfl | cons b m => cases h
  | cons a l ih =>
    intro m h
    cases m with
    | nil => cases h
    | cons b m =>
      unfold xlveq at h
      rw [Bool.and_eq_true, Bool.and_eq_true] at h
      obtain ⟨a1, a2⟩ := a
      obtain ⟨b1, b2⟩ := b
      have e1 : a1 = b1 := Nat.eq_of_beq_eq_true h.1
      have e2 : a2 = b2 := xveq_s h.2.1
      rw [e1, e2, ih h.2.2]
def xfseq : List xFr → List xFr → Bool
  | [], [] => true
  | a :: l, b :: m => Nat.beq a.1 b.1 && (Nat.beq a.2.1 b.2.1 && (xlveq a.2.2.1 b.2.2.1 && (xlseq a.2.2.2.1 b.2.2.2.1 && (Nat.beq a.2.2.2.2.1 b.2.2.2.2.1 && ((bif a.2.2.2.2.2.1 then b.2.2.2.2.2.1 else !b.2.2.2.2.2.1) && (Nat.beq a.2.2.2.2.2.2.1 b.2.2.2.2.2.2.1 && (Nat.beq a.2.2.2.2.2.2.2 b.2.2.2.2.2.2.2 && xfseq l m)))))))
  | _, _ => false
theorem xfseq_s : ∀ {l m : List xFr}, xfseq l m = true → l = m := by
  intro l
  induction l with
  | nil => intro m h; cases m with | nil => rfl | cons b m => cases h
  | cons a l ih =>
    intro m h
    cases m with
    | nil => cases h
    | cons b m =>
      obtain ⟨a1, a2, a3, a4, a5, a6, a7, a8⟩ := a
      obtain ⟨b1, b2, b3, b4, b5, b6, b7, b8⟩ := b
      unfold xfseq at h
      simp only [Bool.and_eq_true] at h
      obtain ⟨h1, h2, h3, h4, h5, h6, h7, h8, h9⟩ := h
      have e1 : a1 = b1 := Nat.eq_of_beq_eq_true h1
      have e2 : a2 = b2 := Nat.eq_of_beq_eq_true h2
      have e3 : a3 = b3 := xlveq_s h3
      have e4 : a4 = b4 := xlseq_s h4
      have e5 : a5 = b5 := Nat.eq_of_beq_eq_true h5
      have e6 : a6 = b6 := by cases a6 <;> cases b6 <;> first | rfl | cases h6
      have e7 : a7 = b7 := Nat.eq_of_beq_eq_true h7
      have e8 : a8 = b8 := Nat.eq_of_beq_eq_true h8
      rw [e1, e2, e3, e4, e5, e6, e7, e8, ih h9]
/-- a state: method, frame, heap, frames that wait, made in this frame -/
abbrev xSt := Nat × xFm × xHp × List xFr × Nat × Nat
/-- it is this state -/
def xat (s : xSt) : xCo := fun mid fr g S mc ms _ => Nat.beq mid s.1 && (Nat.beq fr.1 s.2.1.1 && (xlveq fr.2.1 s.2.1.2.1 && (xlseq fr.2.2 s.2.1.2.2 && (xheq g s.2.2.1 && (xfseq S s.2.2.2.1 && (Nat.beq mc s.2.2.2.2.1 && Nat.beq ms s.2.2.2.2.2))))))
def xGl (T : ycT) (r : Nat → Int) (P : ycL → Prop) (s : xSt) : Prop := yvG T (xdS r s.2.2.2.1) P s.1 (xdF r s.2.1) (xdH T r s.2.2.1) s.2.2.2.2.1 s.2.2.2.2.2
theorem xat_s {P : ycL → Prop} {s : xSt} (h : xGl T r P s) : xKok T r P (xat s) := by
  intro mid fr g S mc ms F hx _
  unfold xat at hx
  obtain ⟨s1, ⟨s2, s3, s4⟩, s5, s6, s7, s8⟩ := s
  obtain ⟨f1, f2, f3⟩ := fr
  simp only [Bool.and_eq_true] at hx
  obtain ⟨h1, h2, h3, h4, h5, h6, h7, h8⟩ := hx
  have e1 : mid = s1 := Nat.eq_of_beq_eq_true h1
  have e2 : f1 = s2 := Nat.eq_of_beq_eq_true h2
  have e3 : f2 = s3 := xlveq_s h3
  have e4 : f3 = s4 := xlseq_s h4
  have e5 : xdH T r g = xdH T r s5 := xheq_s h5
  have e6 : S = s6 := xfseq_s h6
  have e7 : mc = s7 := Nat.eq_of_beq_eq_true h7
  have e8 : ms = s8 := Nat.eq_of_beq_eq_true h8
  subst e1 e2 e3 e4 e6 e7 e8
  rw [e5]
  exact h
/-- from a state on, n steps, to another -/
def xgoes (T : ycT) (ol : xO) (F : xF) (n : Nat) (s t : xSt) : Bool := xrun T ol (fun _ _ _ _ _ _ => false) (fun _ _ => false) (xat t) n s.1 s.2.1 s.2.2.1 s.2.2.2.1 s.2.2.2.2.1 s.2.2.2.2.2 F
theorem xgoes_s {P : ycL → Prop} {ol : xO} {F : xF} (H : xH r F) (hol : xolok r (ytOL T) ol) {n : Nat} {s t : xSt} (h : xgoes T ol F n s t = true) (ht : xGl T r P t) : xGl T r P s :=
  xrun_s hol (fun _ _ _ _ _ _ h _ => by cases h) (xat_s ht) n _ _ _ _ _ _ _ h H
end YTB
