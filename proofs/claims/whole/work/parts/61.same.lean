noncomputable section YTB
/-! SYMBOLIC RUNS: the state reached is a given one; the arrays that were there before -/
variable {T : ycT} {r : Nat → Int}
def xveq (a b : xV) : Bool := Nat.beq a.1 b.1 && xeq a.2 b.2
theorem xveq_s {a b : xV} (h : xveq a b = true) : a = b := by
  unfold xveq at h
  rw [Bool.and_eq_true] at h
  obtain ⟨a1, a2⟩ := a
  obtain ⟨b1, b2⟩ := b
  have e1 : a1 = b1 := Nat.eq_of_beq_eq_true h.1
  have e2 : a2 = b2 := xeq_s h.2
  rw [e1, e2]
/-- trees that hold the same, whatever their shape -/
def xtlf {α : Type} (f : α → α → Bool) (a : α) : xT α → Bool
  | .leaf b => f a b
  | .branch _ l r => xtlf f a l && xtlf f a r
def xteq {α : Type} (f : α → α → Bool) : xT α → xT α → Bool
  | .leaf a, t => xtlf f a t
  | .branch _ l r, .leaf b => xtlf (fun x y => f y x) b l && xtlf (fun x y => f y x) b r
  | .branch _ l r, .branch _ l2 r2 => xteq f l l2 && xteq f r r2
theorem xtlf_s {α β : Type} {f : α → α → Bool} {φ : α → β} {a : α} (hf : ∀ b, f a b = true → φ a = φ b) : ∀ (t : xT α), xtlf f a t = true → ∀ i, φ a = φ (xg0 t i) := by
  intro t
  induction t with
  | leaf b => exact fun h i => hf b h
  | branch p l r ihl ihr =>
    intro h i
    unfold xtlf at h
    rw [Bool.and_eq_true] at h
    show φ a = φ (bif Nat.beq (i % 2) 0 then xg0 l (i / 2) else xg0 r (i / 2))
    cases Nat.beq (i % 2) 0 with
    | true => exact ihl h.1 _
    | false => exact ihr h.2 _
theorem xteq_s {α β : Type} {f : α → α → Bool} {φ : α → β} (hf : ∀ a b, f a b = true → φ a = φ b) : ∀ (s t : xT α), xteq f s t = true → ∀ i, φ (xg0 s i) = φ (xg0 t i) := by
  intro s
  induction s with
  | leaf a => intro t h i; exact xtlf_s (fun b => hf a b) t h i
  | branch p l r ihl ihr =>
    intro t h i
    cases t with
    | leaf b =>
      unfold xteq at h
      rw [Bool.and_eq_true] at h
      show φ (bif Nat.beq (i % 2) 0 then xg0 l (i / 2) else xg0 r (i / 2)) = φ b
      cases Nat.beq (i % 2) 0 with
      | true => exact (xtlf_s (φ := φ) (fun x hx => (hf x b hx).symm) l h.1 _).symm
      | false => exact (xtlf_s (φ := φ) (fun x hx => (hf x b hx).symm) r h.2 _).symm
    | branch q l2 r2 =>
      unfold xteq at h
      rw [Bool.and_eq_true] at h
      show φ (bif Nat.beq (i % 2) 0 then xg0 l (i / 2) else xg0 r (i / 2)) = φ (bif Nat.beq (i % 2) 0 then xg0 l2 (i / 2) else xg0 r2 (i / 2))
      cases Nat.beq (i % 2) 0 with
      | true => exact ihl l2 h.1 _
      | false => exact ihr r2 h.2 _
def xceq (c d : xC) : Bool := Nat.beq c.1 d.1 && (Nat.beq c.2.1 d.2.1 && ((xisb c.2.2.2 && xisb d.2.2.2) && xteq xveq c.2.2.2 d.2.2.2))
theorem xceq_s {c d : xC} (h : xceq c d = true) : xdC T r c = xdC T r d := by
  unfold xceq at h
  simp only [Bool.and_eq_true] at h
  obtain ⟨c1, c2, c3, c4⟩ := c
  obtain ⟨d1, d2, d3, d4⟩ := d
  have e1 : c1 = d1 := Nat.eq_of_beq_eq_true h.1
  have e2 : c2 = d2 := Nat.eq_of_beq_eq_true h.2.1
  have e3 := xteq_s (φ := fun v : xV => v) (fun a b => xveq_s) c4 d4 h.2.2.2
  subst e1 e2
  show (c1, c2, _) = (c1, c2, _)
  congr 2
  funext j
  show (bif Nat.blt j c2 then xct r c4 j else _) = (bif Nat.blt j c2 then xct r d4 j else _)
  rw [xct_b h.2.2.1.1, xct_b h.2.2.1.2, show xg0 c4 j = xg0 d4 j from e3 j]
def xheq (g h : xHp) : Bool := Nat.beq g.2.1 h.2.1 && ((bif g.2.2 then h.2.2 else !h.2.2) && xteq xceq g.1 h.1)
theorem xheq_s {g h : xHp} (e : xheq g h = true) : xdH T r g = xdH T r h := by
  unfold xheq at e
  rw [Bool.and_eq_true, Bool.and_eq_true] at e
  obtain ⟨g1, g2, g3⟩ := g
  obtain ⟨h1, h2, h3⟩ := h
  have e1 : g2 = h2 := Nat.eq_of_beq_eq_true e.1
  have e2 : g3 = h3 := by
    have := e.2.1
    cases g3 <;> cases h3 <;> first | rfl | cases this
  have e3 := xteq_s (φ := xdC T r) (fun a b => xceq_s) g1 h1 e.2.2
  subst e1 e2
  show (_, g2, g3) = (_, g2, g3)
  congr 1
  funext a
  show (bif Nat.blt a g2 then xdC T r (xg0 g1 a) else _) = (bif Nat.blt a g2 then xdC T r (xg0 h1 a) else _)
  rw [e3 a]
def xlseq : List xV → List xV → Bool
  | [], [] => true
  | a :: l, b :: m => xveq a b && xlseq l m
  | _, _ => false
theorem xlseq_s : ∀ {l m : List xV}, xlseq l m = true → l = m := by
  intro l
  induction l with
  | nil => intro m h; cases m with | nil => rfl | cons b m => cases h
  | cons a l ih =>
    intro m h
    cases m with
    | nil => cases h
    | cons b m =>
      unfold xlseq at h
      rw [Bool.and_eq_true] at h
      rw [xveq_s h.1, ih h.2]
def xlveq : List (Nat × xV) → List (Nat × xV) → Bool
  | [], [] => true
  | a :: l, b :: m => Nat.beq a.1 b.1 && (xveq a.2 b.2 && xlveq l m)
  | _, _ => false
theorem xlveq_s : ∀ {l m : List (Nat × xV)}, xlveq l m = true → l = m := by
  intro l
  induction l with
  | nil => intro m h; cases m with | nil => rfl | cons b m => cases h
  | cons a l ih =>
    intro m h
    cases m with
    | nil => cases h
    | cons b m =>
      unfold xlveq at h
      rw [Bool.and_eq_true, Bool.and_eq_true] at h
      obtain ⟨a1, a2⟩ := a
      obtain ⟨b1, b2⟩ := b
      have e1 : a1 = b1 := Nat.eq_of_beq_eq_true h.1
      have e2 : a2 = b2 := xveq_s h.2.1
      rw [e1, e2, ih h.2.2]
def xfseq : List xFr → List xFr → Bool
  | [], [] => true
  | a :: l, b :: m => Nat.beq a.1 b.1 && (Nat.beq a.2.1 b.2.1 && (xlveq a.2.2.1 b.2.2.1 && (xlseq a.2.2.2.1 b.2.2.2.1 && (Nat.beq a.2.2.2.2.1 b.2.2.2.2.1 && ((bif a.2.2.2.2.2.1 then b.2.2.2.2.2.1 else !b.2.2.2.2.2.1) && (Nat.beq a.2.2.2.2.2.2.1 b.2.2.2.2.2.2.1 && (Nat.beq a.2.2.2.2.2.2.2 b.2.2.2.2.2.2.2 && xfseq l m)))))))
  | _, _ => false
theorem xfseq_s : ∀ {l m : List xFr}, xfseq l m = true → l = m := by
  intro l
  induction l with
  | nil => intro m h; cases m with | nil => rfl | cons b m => cases h
  | cons a l ih =>
    intro m h
    cases m with
    | nil => cases h
    | cons b m =>
      obtain ⟨a1, a2, a3, a4, a5, a6, a7, a8⟩ := a
      obtain ⟨b1, b2, b3, b4, b5, b6, b7, b8⟩ := b
      unfold xfseq at h
      simp only [Bool.and_eq_true] at h
      obtain ⟨h1, h2, h3, h4, h5, h6, h7, h8, h9⟩ := h
      have e1 : a1 = b1 := Nat.eq_of_beq_eq_true h1
      have e2 : a2 = b2 := Nat.eq_of_beq_eq_true h2
      have e3 : a3 = b3 := xlveq_s h3
      have e4 : a4 = b4 := xlseq_s h4
      have e5 : a5 = b5 := Nat.eq_of_beq_eq_true h5
      have e6 : a6 = b6 := by cases a6 <;> cases b6 <;> first | rfl | cases h6
      have e7 : a7 = b7 := Nat.eq_of_beq_eq_true h7
      have e8 : a8 = b8 := Nat.eq_of_beq_eq_true h8
      rw [e1, e2, e3, e4, e5, e6, e7, e8, ih h9]
/-- a state: method, frame, heap, frames that wait, made in this frame -/
abbrev xSt := Nat × xFm × xHp × List xFr × Nat × Nat
/-- it is this state -/
def xat (s : xSt) : xCo := fun mid fr g S mc ms _ => Nat.beq mid s.1 && (Nat.beq fr.1 s.2.1.1 && (xlveq fr.2.1 s.2.1.2.1 && (xlseq fr.2.2 s.2.1.2.2 && (xheq g s.2.2.1 && (xfseq S s.2.2.2.1 && (Nat.beq mc s.2.2.2.2.1 && Nat.beq ms s.2.2.2.2.2))))))
def xGl (T : ycT) (r : Nat → Int) (P : ycL → Prop) (s : xSt) : Prop := yvG T (xdS r s.2.2.2.1) P s.1 (xdF r s.2.1) (xdH T r s.2.2.1) s.2.2.2.2.1 s.2.2.2.2.2
theorem xat_s {P : ycL → Prop} {s : xSt} (h : xGl T r P s) : xKok T r P (xat s) := by
  intro mid fr g S mc ms F hx _
  unfold xat at hx
  obtain ⟨s1, ⟨s2, s3, s4⟩, s5, s6, s7, s8⟩ := s
  obtain ⟨f1, f2, f3⟩ := fr
  simp only [Bool.and_eq_true] at hx
  obtain ⟨h1, h2, h3, h4, h5, h6, h7, h8⟩ := hx
  have e1 : mid = s1 := Nat.eq_of_beq_eq_true h1
  have e2 : f1 = s2 := Nat.eq_of_beq_eq_true h2
  have e3 : f2 = s3 := xlveq_s h3
  have e4 : f3 = s4 := xlseq_s h4
  have e5 : xdH T r g = xdH T r s5 := xheq_s h5
  have e6 : S = s6 := xfseq_s h6
  have e7 : mc = s7 := Nat.eq_of_beq_eq_true h7
  have e8 : ms = s8 := Nat.eq_of_beq_eq_true h8
  subst e1 e2 e3 e4 e6 e7 e8
  rw [e5]
  exact h
/-- from a state on, n steps, to another -/
def xgoes (T : ycT) (ol : xO) (F : xF) (n : Nat) (s t : xSt) : Bool := xrun T ol (fun _ _ _ _ _ _ => false) (fun _ _ => false) (xat t) n s.1 s.2.1 s.2.2.1 s.2.2.2.1 s.2.2.2.2.1 s.2.2.2.2.2 F
theorem xgoes_s {P : ycL → Prop} {ol : xO} {F : xF} (H : xH r F) (hol : xolok r (ytOL T) ol) {n : Nat} {s t : xSt} (h : xgoes T ol F n s t = true) (ht : xGl T r P t) : xGl T r P s :=
  xrun_s hol (fun _ _ _ _ _ _ h _ => by cases h) (xat_s ht) n _ _ _ _ _ _ _ h H
end YTB
