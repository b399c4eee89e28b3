noncomputable section YTE
/-! SYMBOLIC RUNS: a state is another's with other unknowns, the whole; where a run may stop -/
variable {T : ycT} {r : Nat → Int} {F : xF}
/-! the same numbers on both sides: no look at what is known, no unknowns (so the kernel keeps what it comes to) -/
def xTsame : xT xV → xT xV → Bool
  | .leaf a, .leaf b => Nat.blt a.1 10 && (Nat.beq a.1 b.1 && (match a.2, b.2 with
    | .num x, .num y => decide (x = y)
    | _, _ => false))
  | .branch p l u, .branch q l2 u2 => Nat.beq p 0 && (Nat.beq q 0 && (xTsame l l2 && xTsame u u2))
  | _, _ => false
def xCsame (p c : xC) : Bool := Nat.beq p.1 c.1 && (Nat.beq p.2.1 c.2.1 && xTsame p.2.2.2 c.2.2.2)
theorem xTsame_g : ∀ {s t : xT xV}, xTsame s t = true → ∀ i, ∃ k : Nat, ∃ z : Int, k < 10 ∧ xg0 s i = (k, .num z) ∧ xg0 t i = (k, .num z) := by
  intro s
  induction s with
  | leaf a =>
    intro t h i
    cases t with
    | branch q l2 u2 => cases h
    | leaf b =>
      obtain ⟨a1, a2⟩ := a
      obtain ⟨b1, b2⟩ := b
      unfold xTsame at h
      rw [Bool.and_eq_true, Bool.and_eq_true] at h
      obtain ⟨h1, h2, h3⟩ := h
      have e1 : a1 = b1 := Nat.eq_of_beq_eq_true h2
      have l1 : a1 < 10 := Nat.ble_eq.mp h1
      subst e1
      split at h3
      · rename_i x y e2 e3
        have e2 : a2 = .num x := e2
        have e3 : b2 = .num y := e3
        have e4 : x = y := of_decide_eq_true h3
        subst e2 e3 e4
        exact ⟨a1, x, l1, rfl, rfl⟩
      · cases h3
  | branch p l u ihl ihu =>
    intro t h i
    cases t with
    | leaf b => cases h
    | branch q l2 u2 =>
      unfold xTsame at h
      rw [Bool.and_eq_true, Bool.and_eq_true, Bool.and_eq_true] at h
      obtain ⟨h1, h2, h3, h4⟩ := h
      rw [xg0_br, xg0_br]
      cases Nat.beq (i % 2) 0 with
      | true => exact ihl h3 (i / 2)
      | false => exact ihu h4 (i / 2)
theorem xTsame_c {r r2 : Nat → Int} {s t : xT xV} (h : xTsame s t = true) (j : Nat) : xct r s j = xct r2 t j := by
  have hs : xisb s = true := by
    cases s with
    | leaf a => rfl
    | branch p l u =>
      cases t with
      | leaf b => cases h
      | branch q l2 u2 =>
        unfold xTsame at h
        rw [Bool.and_eq_true] at h
        exact h.1
  have ht : xisb t = true := by
    cases t with
    | leaf a => rfl
    | branch q l2 u2 =>
      cases s with
      | leaf b => cases h
      | branch p l u =>
        unfold xTsame at h
        rw [Bool.and_eq_true, Bool.and_eq_true] at h
        exact h.2.1
  obtain ⟨k, z, hk, e1, e2⟩ := xTsame_g h j
  rw [xct_b hs, xct_b ht, e1, e2]
  have a : xsv (k, .num z) j = (k, .num z) := by
    unfold xsv
    rw [show Nat.ble 10 (k, (Lean.Grind.CommRing.Expr.num z)).1 = false from by
      cases hb : Nat.ble 10 k with
      | true => exact absurd (Nat.ble_eq.mp hb) (by omega)
      | false => rfl]
    rfl
  rw [a]
  rfl
theorem xCsame_s {T : ycT} {r r2 : Nat → Int} {p c : xC} (h : xCsame p c = true) : xdC T r p = xdC T r2 c := by
  unfold xCsame at h
  rw [Bool.and_eq_true, Bool.and_eq_true] at h
  obtain ⟨h1, h2, h3⟩ := h
  have e1 := Nat.eq_of_beq_eq_true h1
  have e2 := Nat.eq_of_beq_eq_true h2
  show (p.1, p.2.1, fun j => bif Nat.blt j p.2.1 then xct r p.2.2.2 j else xdf T p.1 j) = (c.1, c.2.1, fun j => bif Nat.blt j c.2.1 then xct r2 c.2.2.2 j else xdf T c.1 j)
  rw [e1, e2]
  congr 2
  funext j
  rw [xTsame_c (r := r) (r2 := r2) h3 j]
/-- cells alike below here, the same numbers -/
def xhsm (p : xT xC) : xT xC → Bool := Lean.RArray.rec (motive := fun _ => xT xC → Bool) (fun a t => match t with
    | .leaf c => xCsame a c
    | .branch _ _ _ => false) (fun _ _ _ l u t => match t with
    | .leaf _ => false
    | .branch _ l2 u2 => l l2 && u u2) p
theorem xhsm_s {T : ycT} {r r2 : Nat → Int} : ∀ {s t : xT xC}, xhsm s t = true → ∀ i, xdC T r (xg0 s i) = xdC T r2 (xg0 t i) := by
  intro s
  induction s with
  | leaf a =>
    intro t h i
    cases t with
    | branch q l2 u2 => cases h
    | leaf c => exact xCsame_s h
  | branch p l u ihl ihu =>
    intro t h i
    cases t with
    | leaf c => cases h
    | branch q l2 u2 =>
      have h : (xhsm l l2 && xhsm u u2) = true := h
      rw [Bool.and_eq_true] at h
      rw [xg0_br, xg0_br]
      cases Nat.beq (i % 2) 0 with
      | true => exact ihl h.1 (i / 2)
      | false => exact ihu h.2 (i / 2)
/-- a cell of the pattern at the places below n that are i and on by st -/
def xcq (F : xF) (σ : List (Nat × xjE)) (fam : List xFw) (n i st : Nat) (p c : xC) : Bool := Nat.ble n i || (xCsame p c || (match p.2.2.2 with
  | .leaf v => bif Nat.ble 10 v.1 then Nat.ble n st && xcm F σ fam i p c else xcm F σ [] 0 p c
  | .branch _ _ _ => xcm F σ [] 0 p c))
theorem xcm_nf {σ : List (Nat × xjE)} {fam : List xFw} {a b : Nat} {p c : xC} (h : xcm F σ [] a p c = true) : xcm F σ fam b p c = true := by
  unfold xcm at h ⊢
  rw [Bool.and_eq_true, Bool.and_eq_true] at h ⊢
  refine ⟨h.1, h.2.1, ?_⟩
  have h3 := h.2.2
  split at h3
  · rename_i v e
    cases hb : Nat.ble 10 v.1 with
    | true => rw [hb] at h3; cases h3
    | false => rw [hb] at h3; exact h3
  · exact h3
theorem xcq_s (H : xH r F) {σ : List (Nat × xjE)} {fam : List xFw} {g : xHp} (ho : xasok F σ (xphi g fam) = true) {n i st j : Nat} {p c : xC} (h : xcq F σ fam n i st p c = true) (hj : j < n) (hi : j % st = i) (hc : c = xg0 g.1 j) : xdC T (xas r σ (xphi g fam)) p = xdC T r c := by
  unfold xcq at h
  have := xpi hi
  rw [Bool.or_eq_true, Nat.ble_eq, Bool.or_eq_true] at h
  rcases h with h | h | h
  · omega
  · exact xCsame_s h
  · rw [hc] at h ⊢
    split at h
    · rename_i v e
      cases hb : Nat.ble 10 v.1 with
      | true =>
        rw [hb] at h
        have h : (Nat.ble n st && xcm F σ fam i p (xg0 g.1 j)) = true := h
        rw [Bool.and_eq_true, Nat.ble_eq] at h
        have e2 : i = j := by rw [← hi]; exact Nat.mod_eq_of_lt (by omega)
        rw [e2] at h
        exact xcm_s H ho h.2
      | false =>
        rw [hb] at h
        exact xcm_s H ho (xcm_nf h)
    · exact xcm_s H ho (xcm_nf h)
def xhl (F : xF) (σ : List (Nat × xjE)) (fam : List xFw) (n : Nat) (p : xC) : Nat → Nat → xT xC → Bool
  | i, st, .leaf c => xcq F σ fam n i st p c
  | i, st, .branch _ l u => Nat.ble n i || (xhl F σ fam n p i (st * 2) l && xhl F σ fam n p (i + st) (st * 2) u)
def xhr (F : xF) (σ : List (Nat × xjE)) (fam : List xFw) (n : Nat) (c : xC) : Nat → Nat → xT xC → Bool
  | i, st, .leaf p => xcq F σ fam n i st p c
  | i, st, .branch _ l u => Nat.ble n i || (xhr F σ fam n c i (st * 2) l && xhr F σ fam n c (i + st) (st * 2) u)
def xhw (F : xF) (σ : List (Nat × xjE)) (fam : List xFw) (n : Nat) : Nat → Nat → xT xC → xT xC → Bool
  | i, st, .leaf p, t => xhl F σ fam n p i st t
  | i, st, .branch _ l u, .leaf c => xhr F σ fam n c i (st * 2) l && xhr F σ fam n c (i + st) (st * 2) u
  | i, st, .branch _ l u, .branch _ l2 u2 => Nat.ble n i || ((xhsm l l2 || xhw F σ fam n i (st * 2) l l2) && (xhsm u u2 || xhw F σ fam n (i + st) (st * 2) u u2))
theorem xhl_s (H : xH r F) {σ : List (Nat × xjE)} {fam : List xFw} {g : xHp} (ho : xasok F σ (xphi g fam) = true) {n : Nat} {p : xC} : ∀ (t : xT xC) (i st : Nat), xhl F σ fam n p i st t = true → 0 < st → ∀ j, j < n → j % st = i → xg0 t (j / st) = xg0 g.1 j → xdC T (xas r σ (xphi g fam)) p = xdC T r (xg0 t (j / st)) := by
  intro t
  induction t with
  | leaf c => intro i st h h0 j hj hi hc; exact xcq_s H ho h hj hi hc
  | branch q l u ihl ihu =>
    intro i st h h0 j hj hi hc
    unfold xhl at h
    have := xpi hi
    rw [Bool.or_eq_true, Nat.ble_eq, Bool.and_eq_true] at h
    obtain ⟨p1, p2, p3⟩ := xpl h0 hi
    rcases h with h | h
    · omega
    · rw [xg0_br, p3] at hc ⊢
      cases hb : Nat.beq (j / st % 2) 0 with
      | true =>
        rw [hb] at hc
        exact ihl _ _ h.1 (by omega) j hj (p1 (Nat.eq_of_beq_eq_true hb)) hc
      | false =>
        rw [hb] at hc
        exact ihu _ _ h.2 (by omega) j hj (p2 (Nat.ne_of_beq_eq_false hb)) hc
theorem xhr_s (H : xH r F) {σ : List (Nat × xjE)} {fam : List xFw} {g : xHp} (ho : xasok F σ (xphi g fam) = true) {n : Nat} {c : xC} : ∀ (t : xT xC) (i st : Nat), xhr F σ fam n c i st t = true → 0 < st → ∀ j, j < n → j % st = i → c = xg0 g.1 j → xdC T (xas r σ (xphi g fam)) (xg0 t (j / st)) = xdC T r c := by
  intro t
  induction t with
  | leaf p => intro i st h h0 j hj hi hc; exact xcq_s H ho h hj hi hc
  | branch q l u ihl ihu =>
    intro i st h h0 j hj hi hc
    unfold xhr at h
    have := xpi hi
    rw [Bool.or_eq_true, Nat.ble_eq, Bool.and_eq_true] at h
    obtain ⟨p1, p2, p3⟩ := xpl h0 hi
    rcases h with h | h
    · omega
    · rw [xg0_br, p3]
      cases hb : Nat.beq (j / st % 2) 0 with
      | true => exact ihl _ _ h.1 (by omega) j hj (p1 (Nat.eq_of_beq_eq_true hb)) hc
      | false => exact ihu _ _ h.2 (by omega) j hj (p2 (Nat.ne_of_beq_eq_false hb)) hc
theorem xhw_s (H : xH r F) {σ : List (Nat × xjE)} {fam : List xFw} {g : xHp} (ho : xasok F σ (xphi g fam) = true) {n : Nat} : ∀ (s t : xT xC) (i st : Nat), xhw F σ fam n i st s t = true → 0 < st → ∀ j, j < n → j % st = i → xg0 t (j / st) = xg0 g.1 j → xdC T (xas r σ (xphi g fam)) (xg0 s (j / st)) = xdC T r (xg0 t (j / st)) := by
  intro s
  induction s with
  | leaf p => intro t i st h h0 j hj hi hc; exact xhl_s H ho t i st h h0 j hj hi hc
  | branch q l u ihl ihu =>
    intro t i st h h0 j hj hi hc
    have := xpi hi
    obtain ⟨p1, p2, p3⟩ := xpl h0 hi
    cases t with
    | leaf c =>
      unfold xhw at h
      rw [Bool.and_eq_true] at h
      rw [xg0_br, p3]
      show _ = xdC T r c
      have hc : c = xg0 g.1 j := hc
      cases hb : Nat.beq (j / st % 2) 0 with
      | true => exact xhr_s H ho l _ _ h.1 (by omega) j hj (p1 (Nat.eq_of_beq_eq_true hb)) hc
      | false => exact xhr_s H ho u _ _ h.2 (by omega) j hj (p2 (Nat.ne_of_beq_eq_false hb)) hc
    | branch q2 l2 u2 =>
      unfold xhw at h
      rw [Bool.or_eq_true, Nat.ble_eq, Bool.and_eq_true, Bool.or_eq_true, Bool.or_eq_true] at h
      rcases h with h | h
      · omega
      · rw [xg0_br, p3] at hc ⊢
        rw [xg0_br, p3]
        cases hb : Nat.beq (j / st % 2) 0 with
        | true =>
          rw [hb] at hc
          rcases h.1 with h1 | h1
          · exact xhsm_s h1 _
          · exact ihl _ _ _ h1 (by omega) j hj (p1 (Nat.eq_of_beq_eq_true hb)) hc
        | false =>
          rw [hb] at hc
          rcases h.2 with h1 | h1
          · exact xhsm_s h1 _
          · exact ihu _ _ _ h1 (by omega) j hj (p2 (Nat.ne_of_beq_eq_false hb)) hc
def xhm (F : xF) (σ : List (Nat × xjE)) (fam : List xFw) (p g : xHp) : Bool := Nat.beq p.2.1 g.2.1 && ((bif p.2.2 then g.2.2 else !g.2.2) && xhw F σ fam g.2.1 0 1 p.1 g.1)
theorem xhm_s (H : xH r F) {σ : List (Nat × xjE)} {fam : List xFw} {p g : xHp} (ho : xasok F σ (xphi g fam) = true) (h : xhm F σ fam p g = true) : xdH T (xas r σ (xphi g fam)) p = xdH T r g := by
  unfold xhm at h
  rw [Bool.and_eq_true, Bool.and_eq_true] at h
  obtain ⟨h1, h2, h3⟩ := h
  have e1 := Nat.eq_of_beq_eq_true h1
  have e2 : p.2.2 = g.2.2 := by
    cases hp : p.2.2 <;> cases hg : g.2.2 <;> rw [hp, hg] at h2 <;> first | rfl | cases h2
  show (fun a => bif Nat.blt a p.2.1 then xdC T _ (xg0 p.1 a) else (0, 0, fun _ => (0, 0)), p.2.1, p.2.2) = (fun a => bif Nat.blt a g.2.1 then xdC T r (xg0 g.1 a) else (0, 0, fun _ => (0, 0)), g.2.1, g.2.2)
  rw [e1, e2]
  congr 1
  funext a
  by_cases ha : a < g.2.1
  · rw [ycblt ha]
    have e3 := xhw_s (T := T) H ho p.1 g.1 0 1 h3 (by omega) a ha (Nat.mod_one a) (by rw [Nat.div_one])
    rw [Nat.div_one] at e3
    exact e3
  · rw [ycblf (by omega)]
    rfl
def xfm (F : xF) (σ : List (Nat × xjE)) : List xFr → List xFr → Bool
  | [], [] => true
  | p :: l, f :: m => Nat.beq p.1 f.1 && (Nat.beq p.2.1 f.2.1 && (xml F σ p.2.2.1 f.2.2.1 && (xms F σ p.2.2.2.1 f.2.2.2.1 && (Nat.beq p.2.2.2.2.1 f.2.2.2.2.1 && ((bif p.2.2.2.2.2.1 then f.2.2.2.2.2.1 else !f.2.2.2.2.2.1) && (Nat.beq p.2.2.2.2.2.2.1 f.2.2.2.2.2.2.1 && (Nat.beq p.2.2.2.2.2.2.2 f.2.2.2.2.2.2.2 && xfm F σ l m)))))))
  | _, _ => false
theorem xfm_s (H : xH r F) {σ : List (Nat × xjE)} {φ : List xFam} (ho : xasok F σ φ = true) : ∀ {l m : List xFr}, xfm F σ l m = true → ysS (xdS (xas r σ φ) l) (xdS r m) := by
  intro l
  induction l with
  | nil => intro m h; cases m with | nil => exact True.intro | cons f m => cases h
  | cons p l ih =>
    intro m h
    cases m with
    | nil => cases h
    | cons f m =>
      obtain ⟨p1, p2, p3, p4, p5, p6, p7, p8⟩ := p
      obtain ⟨f1, f2, f3, f4, f5, f6, f7, f8⟩ := f
      unfold xfm at h
      simp only [Bool.and_eq_true] at h
      obtain ⟨h1, h2, h3, h4, h5, h6, h7, h8, h9⟩ := h
      have e1 : p1 = f1 := Nat.eq_of_beq_eq_true h1
      have e2 : p2 = f2 := Nat.eq_of_beq_eq_true h2
      have e5 : p5 = f5 := Nat.eq_of_beq_eq_true h5
      have e6 : p6 = f6 := by cases p6 <;> cases f6 <;> first | rfl | cases h6
      have e7 : p7 = f7 := Nat.eq_of_beq_eq_true h7
      have e8 : p8 = f8 := Nat.eq_of_beq_eq_true h8
      have e4 : p4.map (xdv (xas r σ φ)) = f4.map (xdv r) := xms_s H ho h4
      subst e1 e2 e5 e6 e7 e8
      refine ⟨⟨rfl, rfl, xml_s H ho h3, ?_⟩, ih h9⟩
      show (p4.map (xdv (xas r σ φ)), p5, p6, p7, p8) = (f4.map (xdv r), p5, p6, p7, p8)
      rw [e4]
/-- where an unknown of the pattern is read off: 0, frame (0 the running one), local; 1, cell, slot -/
def xloc (fr : xFm) (S : List xFr) (g : xHp) (q : Nat × Nat × Nat) : xjE :=
  bif Nat.beq q.1 0 then (match (bif Nat.beq q.2.1 0 then xlget fr.2.1 q.2.2 else match S[q.2.1 - 1]? with | some f => xlget f.2.2.1 q.2.2 | none => none) with
    | some v => v.2
    | none => .num 0)
  else (xsv (xg0 (xg0 g.1 q.2.1).2.2.2 q.2.2) q.2.2).2
def xcol (fr : xFm) (S : List xFr) (g : xHp) : List (Nat × Nat × Nat × Nat) → List (Nat × xjE) → (List (Nat × xjE) → Bool) → Bool
  | [], σ, k => k σ
  | w :: l, σ, k => xfe (xloc fr S g w.2) (fun e => xcol fr S g l ((w.1, e) :: σ) k)
theorem xcol_s {fr : xFm} {S : List xFr} {g : xHp} {k : List (Nat × xjE) → Bool} : ∀ {l : List (Nat × Nat × Nat × Nat)} {σ : List (Nat × xjE)}, xcol fr S g l σ k = true → ∃ σ, k σ = true := by
  intro l
  induction l with
  | nil => intro σ h; exact ⟨σ, h⟩
  | cons w l ih =>
    intro σ h
    unfold xcol at h
    rw [xfe_s] at h
    exact ih h
/-- the same trees -/
def xtsy : xT xV → xT xV → Bool
  | .leaf a, .leaf b => xveq a b
  | .branch p l u, .branch q l2 u2 => Nat.beq p q && (xtsy l l2 && xtsy u u2)
  | _, _ => false
theorem xtsy_s : ∀ {s t : xT xV}, xtsy s t = true → s = t := by
  intro s
  induction s with
  | leaf a => intro t h; cases t with | leaf b => rw [xveq_s h] | branch q l u => cases h
  | branch p l u ihl ihu =>
    intro t h
    cases t with
    | leaf b => cases h
    | branch q l2 u2 =>
      unfold xtsy at h
      rw [Bool.and_eq_true, Bool.and_eq_true] at h
      rw [Nat.eq_of_beq_eq_true h.1, ihl h.2.1, ihu h.2.2]
/-- a place to stop: its state, where its unknowns are read off, its families, what is known there; and what is to be known of the way to it: new terms less old ones lie between, families that are to hold this, what is known of the old -/
abbrev xCd := xSt × List (Nat × Nat × Nat × Nat) × List xFw × xF × List (xjE × xjE × Int × Int) × List (Nat × xT xV) × xF
def xfq : List xFr → List xFr → Bool
  | [], [] => true
  | p :: l, f :: m => Nat.beq p.1 f.1 && (Nat.beq p.2.1 f.2.1 && xfq l m)
  | _, _ => false
def xmt (c : xCd) (fr : xFm) (g : xHp) (S : List xFr) (mc ms : Nat) (F : xF) (σ : List (Nat × xjE)) : Bool :=
  xasok F σ (xphi g c.2.2.1) && ((Nat.beq mc c.1.2.2.2.2.1 && Nat.beq ms c.1.2.2.2.2.2) && (xml F σ c.1.2.1.2.1 fr.2.1 && (xms F σ c.1.2.1.2.2 fr.2.2 && (xfm F σ c.1.2.2.2.1 S &&
  (c.2.2.2.1.all (fun q => xvok σ q.1 && xbd F (xsb σ q.1) q.2.1 q.2.2) && (c.2.2.2.2.1.all (fun q => xvok σ q.1 && xbd F (.sub (xsb σ q.1) q.2.1) q.2.2.1 q.2.2.2) &&
  (c.2.2.2.2.2.1.all (fun q => c.2.2.1.all (fun w => !(Nat.beq w.1 q.1) || xtsy (xg0 g.1 w.2.2).2.2.2 q.2)) && (c.2.2.2.2.2.2.all (fun q => xbd F q.1 q.2.1 q.2.2) && xhm F σ c.2.2.1 c.1.2.2.1 g))))))))
def xRel (c : xCd) (r r2 : Nat → Int) : Prop :=
  (∀ q ∈ c.2.2.2.2.1, q.2.2.1 ≤ xden r2 q.1 - xden r q.2.1 ∧ xden r2 q.1 - xden r q.2.1 ≤ q.2.2.2) ∧
  (∀ q ∈ c.2.2.2.2.2.1, ∀ w ∈ c.2.2.1, w.1 = q.1 → ∀ j, j < w.2.1 → r2 (w.1 + 64 * j) = (xct r q.2 j).2) ∧
  (∀ q ∈ c.2.2.2.2.2.2, q.2.1 ≤ xden r q.1 ∧ xden r q.1 ≤ q.2.2) ∧ (∀ i, i < xPB → r2 i = r i)
def xcut (cs : List xCd) : xCo := fun mid fr g S mc ms F => cs.any (fun c => (Nat.beq mid c.1.1 && (Nat.beq fr.1 c.1.2.1.1 && xfq c.1.2.2.2.1 S)) && xcol fr S g c.2.1 [] (fun σ => xmt c fr g S mc ms F σ))
theorem xcut_s {P : ycL → Prop} {cs : List xCd} (hP : ∀ c ∈ cs, ∀ r2, xH r2 c.2.2.2.1 → xRel c r r2 → xGl T r2 P c.1) : xKok T r P (xcut cs) := by
  intro mid fr g S mc ms F hx H
  unfold xcut at hx
  obtain ⟨c, hc, h0⟩ := List.any_eq_true.mp hx
  rw [Bool.and_eq_true, Bool.and_eq_true, Bool.and_eq_true] at h0
  obtain ⟨⟨e1, e2, _⟩, h1⟩ := h0
  obtain ⟨σ, h2⟩ := xcol_s h1
  unfold xmt at h2
  simp only [Bool.and_eq_true] at h2
  obtain ⟨a1, ⟨a2, a3⟩, a4, a5, a6, a7, a8, a9, a10, a11⟩ := h2
  have b1 := Nat.eq_of_beq_eq_true e1
  have b2 := Nat.eq_of_beq_eq_true e2
  have b3 := Nat.eq_of_beq_eq_true a2
  have b4 := Nat.eq_of_beq_eq_true a3
  have ho := xasok_s H a1
  have hG := hP c hc (xas r σ (xphi g c.2.2.1)) ⟨ho, fun q hq => by
    have h := List.all_eq_true.mp a7 q hq
    rw [Bool.and_eq_true] at h
    rw [xsb_s a1 _ h.1]
    exact xbd_s H h.2⟩ ⟨fun q hq => by
    have h := List.all_eq_true.mp a8 q hq
    rw [Bool.and_eq_true] at h
    rw [xsb_s a1 _ h.1]
    exact xbd_s H h.2, fun q hq w hw e j hj => by
    have h := List.all_eq_true.mp (List.all_eq_true.mp a9 q hq) w hw
    rw [e, Nat.beq_refl] at h
    have hm : (w.1, w.2.1, (xg0 g.1 w.2.2).2.2.2) ∈ xphi g c.2.2.1 := List.mem_map.mpr ⟨w, hw, rfl⟩
    have hf := xas_fam (r := r) a1 hm (j := j) hj
    have h9 : (xg0 g.1 w.2.2).2.2.2 = q.2 := xtsy_s h
    rw [← h9]
    exact hf, fun q hq => xbd_s H (List.all_eq_true.mp a10 q hq), fun i hi => xas_lo a1 hi⟩
  unfold xGl at hG
  rw [xhm_s H a1 a11, ← b1, ← b3, ← b4] at hG
  have e3 : xdF (xas r σ (xphi g c.2.2.1)) c.1.2.1 = (fr.1, xdl (xas r σ (xphi g c.2.2.1)) c.1.2.1.2.1, fr.2.2.map (xdv r)) := by
    show (c.1.2.1.1, _, c.1.2.1.2.2.map (xdv (xas r σ (xphi g c.2.2.1)))) = _
    rw [xms_s H a1 a5, ← b2]
  rw [e3] at hG
  exact yvG_m (xml_s H a1 a4) (xfm_s H a1 a6) hG
end YTE
