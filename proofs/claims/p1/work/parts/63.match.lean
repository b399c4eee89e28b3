noncomputable section YTD
/-! SYMBOLIC RUNS: a state is another's with other unknowns -/
variable {T : ycT} {r : Nat → Int} {F : xF}
/-! other unknowns -/
def xPB : Nat := 1048576
def xFB : Nat := 4194304
def xlook : List (Nat × xjE) → Nat → Option xjE
  | [], _ => none
  | q :: l, i => bif Nat.beq q.1 i then some q.2 else xlook l i
abbrev xFam := Nat × Nat × xT xV
def xasf (r : Nat → Int) : List xFam → Nat → Option Int
  | [], _ => none
  | w :: l, i => bif Nat.ble w.1 i && (Nat.beq ((i - w.1) % 64) 0 && Nat.blt ((i - w.1) / 64) w.2.1) then some (xct r w.2.2 ((i - w.1) / 64)).2 else xasf r l i
/-- the new unknowns -/
def xas (r : Nat → Int) (σ : List (Nat × xjE)) (φ : List xFam) (i : Nat) : Int := match xlook σ i with
  | some e => xden r e
  | none => (match xasf r φ i with
    | some v => v
    | none => r i)
/-- what a cell holds lies between -/
def xctr (F : xF) (lo hi : Int) (v : xV) : Bool := bif Nat.ble 10 v.1 then xle lo (xvr (xfb v.2)).1 && xle (xvr (xfb v.2)).2 hi else xbd F v.2 lo hi
theorem xctr_l (H : xH r F) {lo hi : Int} {v : xV} (h : xctr F lo hi v = true) (j : Nat) : lo ≤ (xdv r (xsv v j)).2 ∧ (xdv r (xsv v j)).2 ≤ hi := by
  unfold xctr at h
  unfold xsv
  cases hb : Nat.ble 10 v.1 with
  | true =>
    rw [hb] at h
    have h : (xle lo (xvr (xfb v.2)).1 && xle (xvr (xfb v.2)).2 hi) = true := h
    rw [Bool.and_eq_true, xle_iff, xle_iff] at h
    have a := H.1 (xfb v.2 + 64 * j)
    rw [xvr_f] at a
    show lo ≤ r (xfb v.2 + 64 * j) ∧ r (xfb v.2 + 64 * j) ≤ hi
    omega
  | false =>
    rw [hb] at h
    exact xbd_s H h
/-- base trees alone -/
def xctb (F : xF) (lo hi : Int) : xT xV → Bool
  | .leaf v => xctr F lo hi v
  | .branch _ l u => xctb F lo hi l && xctb F lo hi u
theorem xctb_s (H : xH r F) {lo hi : Int} (j : Nat) : ∀ (t : xT xV) (i : Nat), xctb F lo hi t = true → lo ≤ (xdv r (xsv (xg0 t i) j)).2 ∧ (xdv r (xsv (xg0 t i) j)).2 ≤ hi := by
  intro t
  induction t with
  | leaf v => intro i h; exact xctr_l H h j
  | branch p l u ihl ihu =>
    intro i h
    unfold xctb at h
    rw [Bool.and_eq_true] at h
    have e : xg0 (.branch p l u) i = bif Nat.beq (i % 2) 0 then xg0 l (i / 2) else xg0 u (i / 2) := xg0_br
    rw [e]
    cases Nat.beq (i % 2) 0 with
    | true => exact ihl _ h.1
    | false => exact ihu _ h.2
def xcto (F : xF) (lo hi : Int) : xT xV → Bool
  | .leaf v => xctr F lo hi v
  | .branch p l u => bif Nat.beq p 0 then xctb F lo hi (.branch p l u) else xcto F lo hi l && xbd F (xuv u).2 lo hi
theorem xcto_s (H : xH r F) {lo hi : Int} (j : Nat) : ∀ (t : xT xV), xcto F lo hi t = true → lo ≤ (xct r t j).2 ∧ (xct r t j).2 ≤ hi := by
  intro t
  induction t with
  | leaf v => intro h; exact xctr_l H h j
  | branch p l u ihl ihu =>
    intro h
    unfold xcto at h
    cases hb : Nat.beq p 0 with
    | true =>
      rw [hb] at h
      rw [xct_b (show xisb (.branch p l u) = true from hb)]
      exact xctb_s H j _ j h
    | false =>
      rw [hb] at h
      have h : (xcto F lo hi l && xbd F (xuv u).2 lo hi) = true := h
      rw [Bool.and_eq_true] at h
      have e : xct r (.branch p l u) j = bif decide (xden r (xui u) = (j : Int)) then xdv r (xuv u) else xct r l j := by
        show (bif Nat.beq p 0 then _ else _) = _
        rw [hb]; rfl
      rw [e]
      cases decide (xden r (xui u) = (j : Int)) with
      | true => exact xbd_s H h.2
      | false => exact ihl h.1
/-- families one above the other -/
def xfdis : Nat → List xFam → Bool
  | _, [] => true
  | lo, w :: l => Nat.ble lo w.1 && xfdis (w.1 + 64 * w.2.1) l
theorem xfdis_lo : ∀ {φ : List xFam} {lo : Nat}, xfdis lo φ = true → ∀ w ∈ φ, lo ≤ w.1 := by
  intro φ
  induction φ with
  | nil => intro lo _ w hw; cases hw
  | cons w l ih =>
    intro lo h w2 hw
    unfold xfdis at h
    rw [Bool.and_eq_true] at h
    have h1 := Nat.ble_eq.mp h.1
    rcases List.mem_cons.mp hw with e | e
    · subst e; exact h1
    · have := ih h.2 w2 e
      omega
theorem xasf_at {r : Nat → Int} : ∀ {φ : List xFam} {lo : Nat}, xfdis lo φ = true → ∀ w ∈ φ, ∀ j, j < w.2.1 → xasf r φ (w.1 + 64 * j) = some (xct r w.2.2 j).2 := by
  intro φ
  induction φ with
  | nil => intro lo _ w hw; cases hw
  | cons w l ih =>
    intro lo h w2 hw j hj
    unfold xfdis at h
    rw [Bool.and_eq_true] at h
    unfold xasf
    rcases List.mem_cons.mp hw with e | e
    · subst e
      rw [show (w2.1 + 64 * j - w2.1) % 64 = 0 by omega, show (w2.1 + 64 * j - w2.1) / 64 = j by omega, ycblt hj, show Nat.ble w2.1 (w2.1 + 64 * j) = true from Nat.ble_eq.mpr (by omega)]
      rfl
    · have := xfdis_lo h.2 w2 e
      rw [show Nat.blt ((w2.1 + 64 * j - w.1) / 64) w.2.1 = false from ycblf (by omega), Bool.and_false, Bool.and_false]
      exact ih h.2 w2 e j hj
/-- the new unknowns are in their ranges -/
def xasok (F : xF) (σ : List (Nat × xjE)) (φ : List xFam) : Bool := σ.all (fun q => (Nat.ble xPB q.1 && Nat.blt q.1 xFB) && xbd F q.2 (xvr q.1).1 (xvr q.1).2) && (xfdis xFB φ && φ.all (fun w => xcto F (xvr w.1).1 (xvr w.1).2 w.2.2))
theorem xlook_m : ∀ {σ : List (Nat × xjE)} {i : Nat} {e : xjE}, xlook σ i = some e → (i, e) ∈ σ := by
  intro σ
  induction σ with
  | nil => intro i e h; cases h
  | cons q l ih =>
    intro i e h
    unfold xlook at h
    cases hb : Nat.beq q.1 i with
    | true =>
      rw [hb] at h
      have e1 := Nat.eq_of_beq_eq_true hb
      have e2 : q.2 = e := Option.some.inj h
      subst e1 e2
      exact List.mem_cons_self
    | false =>
      rw [hb] at h
      exact List.mem_cons_of_mem _ (ih h)
theorem xasf_m : ∀ {φ : List xFam} {i : Nat} {v : Int}, xasf r φ i = some v → ∃ w ∈ φ, ∃ j, j < w.2.1 ∧ i = w.1 + 64 * j ∧ v = (xct r w.2.2 j).2 := by
  intro φ
  induction φ with
  | nil => intro i v h; cases h
  | cons w l ih =>
    intro i v h
    unfold xasf at h
    cases hb : Nat.ble w.1 i && (Nat.beq ((i - w.1) % 64) 0 && Nat.blt ((i - w.1) / 64) w.2.1) with
    | true =>
      rw [hb] at h
      rw [Bool.and_eq_true, Bool.and_eq_true] at hb
      have a := Nat.ble_eq.mp hb.1
      have b := Nat.eq_of_beq_eq_true hb.2.1
      have c : (i - w.1) / 64 < w.2.1 := Nat.ble_eq.mp hb.2.2
      exact ⟨w, List.mem_cons_self, (i - w.1) / 64, c, by omega, (Option.some.inj h).symm⟩
    | false =>
      rw [hb] at h
      obtain ⟨w2, h1, h2⟩ := ih h
      exact ⟨w2, List.mem_cons_of_mem _ h1, h2⟩
theorem xasok_s (H : xH r F) {σ : List (Nat × xjE)} {φ : List xFam} (h : xasok F σ φ = true) : xrok (xas r σ φ) := by
  unfold xasok at h
  rw [Bool.and_eq_true, Bool.and_eq_true] at h
  intro i
  unfold xas
  split
  · rename_i e he
    have := List.all_eq_true.mp h.1 _ (xlook_m he)
    rw [Bool.and_eq_true] at this
    exact xbd_s H this.2
  · split
    · rename_i v hv
      obtain ⟨w, h1, j, h2, h3, h4⟩ := xasf_m hv
      have := List.all_eq_true.mp h.2.2 w h1
      rw [h3, xvr_f, h4]
      exact xcto_s H j _ this
    · exact H.1 i
theorem xas_lo {σ : List (Nat × xjE)} {φ : List xFam} (h : xasok F σ φ = true) {i : Nat} (hi : i < xPB) : xas r σ φ i = r i := by
  unfold xasok at h
  rw [Bool.and_eq_true, Bool.and_eq_true] at h
  unfold xas
  split
  · rename_i e he
    have := List.all_eq_true.mp h.1 _ (xlook_m he)
    rw [Bool.and_eq_true, Bool.and_eq_true] at this
    have := Nat.ble_eq.mp this.1.1
    have this : xPB ≤ i := this
    omega
  · split
    · rename_i v hv
      obtain ⟨w, h1, j, h2, h3, h4⟩ := xasf_m hv
      have := xfdis_lo h.2.1 w h1
      have a : xPB < xFB := by decide
      omega
    · rfl
theorem xas_fam {σ : List (Nat × xjE)} {φ : List xFam} (h : xasok F σ φ = true) {w : xFam} (hw : w ∈ φ) {j : Nat} (hj : j < w.2.1) : xas r σ φ (w.1 + 64 * j) = (xct r w.2.2 j).2 := by
  unfold xasok at h
  rw [Bool.and_eq_true, Bool.and_eq_true] at h
  have a := xfdis_lo h.2.1 w hw
  unfold xas
  split
  · rename_i e he
    have := List.all_eq_true.mp h.1 _ (xlook_m he)
    rw [Bool.and_eq_true, Bool.and_eq_true] at this
    have this : w.1 + 64 * j < xFB := Nat.ble_eq.mp this.1.2
    omega
  · rw [xasf_at h.2.1 w hw j hj]
/-- a term with the old unknowns put in -/
def xsb (σ : List (Nat × xjE)) : xjE → xjE
  | .var i => (match xlook σ i with
    | some e => e
    | none => .var i)
  | .neg a => .neg (xsb σ a)
  | .add a b => .add (xsb σ a) (xsb σ b)
  | .sub a b => .sub (xsb σ a) (xsb σ b)
  | .mul a b => .mul (xsb σ a) (xsb σ b)
  | .pow a k => (match a with
    | .add b c => .pow (.add (xsb σ b) (xsb σ c)) k
    | .neg b => .pow (.neg (xsb σ b)) k
    | a => .pow a k)
  | e => e
def xvok (σ : List (Nat × xjE)) : xjE → Bool
  | .num _ => true
  | .var i => Nat.blt i xPB || (xlook σ i).isSome
  | .neg a => xvok σ a
  | .add a b => xvok σ a && xvok σ b
  | .sub a b => xvok σ a && xvok σ b
  | .mul a b => xvok σ a && xvok σ b
  | .pow a _ => (match a with
    | .add b c => xvok σ b && xvok σ c
    | .neg b => xvok σ b
    | _ => false)
  | _ => false
theorem xsb_s {σ : List (Nat × xjE)} {φ : List xFam} (ho : xasok F σ φ = true) : ∀ p : xjE, xvok σ p = true → xden (xas r σ φ) p = xden r (xsb σ p)
  | .num _, _ => rfl
  | .natCast _, h => by cases h
  | .intCast _, h => by cases h
  | .var i, h => by
    have h : (Nat.blt i xPB || (xlook σ i).isSome) = true := h
    show xas r σ φ i = xden r (match xlook σ i with | some e => e | none => .var i)
    cases hl : xlook σ i with
    | some e =>
      show xas r σ φ i = xden r e
      unfold xas
      rw [hl]
    | none =>
      rw [hl, Bool.or_eq_true] at h
      rcases h with h | h
      · exact xas_lo ho (Nat.ble_eq.mp h)
      · cases h
  | .neg a, h => by
    show - xden _ a = - xden _ (xsb σ a)
    rw [xsb_s ho a h]
  | .add a b, h => by
    have h : (xvok σ a && xvok σ b) = true := h
    rw [Bool.and_eq_true] at h
    show xden _ a + xden _ b = xden _ (xsb σ a) + xden _ (xsb σ b)
    rw [xsb_s ho a h.1, xsb_s ho b h.2]
  | .sub a b, h => by
    have h : (xvok σ a && xvok σ b) = true := h
    rw [Bool.and_eq_true] at h
    show xden _ a - xden _ b = xden _ (xsb σ a) - xden _ (xsb σ b)
    rw [xsb_s ho a h.1, xsb_s ho b h.2]
  | .mul a b, h => by
    have h : (xvok σ a && xvok σ b) = true := h
    rw [Bool.and_eq_true] at h
    show xden _ a * xden _ b = xden _ (xsb σ a) * xden _ (xsb σ b)
    rw [xsb_s ho a h.1, xsb_s ho b h.2]
  | .pow (.add b c) k, h => by
    have h : (xvok σ b && xvok σ c) = true := h
    rw [Bool.and_eq_true] at h
    show xop k (xden _ b) (xden _ c) = xop k (xden _ (xsb σ b)) (xden _ (xsb σ c))
    rw [xsb_s ho b h.1, xsb_s ho c h.2]
  | .pow (.neg b) k, h => by
    have h : xvok σ b = true := h
    show xop1 k (xden _ b) = xop1 k (xden _ (xsb σ b))
    rw [xsb_s ho b h]
  | .pow (.num _) _, h => by cases h
  | .pow (.natCast _) _, h => by cases h
  | .pow (.intCast _) _, h => by cases h
  | .pow (.var _) _, h => by cases h
  | .pow (.sub _ _) _, h => by cases h
  | .pow (.mul _ _) _, h => by cases h
  | .pow (.pow _ _) _, h => by cases h
/-- the same number -/
def xie (a b : Int) : Bool := Int.casesOn (motive := fun _ => Bool) a (fun m => Int.casesOn (motive := fun _ => Bool) b (fun n => Nat.beq m n) (fun _ => false)) (fun m => Int.casesOn (motive := fun _ => Bool) b (fun _ => false) (fun n => Nat.beq m n))
theorem xie_s {a b : Int} (h : xie a b = true) : a = b := by
  cases a with
  | ofNat m => cases b with
    | ofNat n => rw [Nat.eq_of_beq_eq_true (show Nat.beq m n = true from h)]
    | negSucc n => cases h
  | negSucc m => cases b with
    | ofNat n => cases h
    | negSucc n => rw [Nat.eq_of_beq_eq_true (show Nat.beq m n = true from h)]
/-- the pattern's term is this one -/
def xmes (F : xF) (σ : List (Nat × xjE)) (p e : xjE) : Bool := xvok σ p && (xeq (xsb σ p) e || xbd F (.sub (xsb σ p) e) 0 0)
def xme (F : xF) (σ : List (Nat × xjE)) (p e : xjE) : Bool := zN p (xmes F σ p e) (fun a => zN e (xmes F σ p e) (fun b => xie a b))
theorem xme_s (H : xH r F) {σ : List (Nat × xjE)} {φ : List xFam} (ho : xasok F σ φ = true) {p e : xjE} (h : xme F σ p e = true) : xden (xas r σ φ) p = xden r e := by
  have slow : xmes F σ p e = true → xden (xas r σ φ) p = xden r e := by
    intro h
    unfold xmes at h
    rw [Bool.and_eq_true, Bool.or_eq_true] at h
    rw [xsb_s ho _ h.1]
    rcases h.2 with h2 | h2
    · rw [xeq_s h2]
    · have h3 := xbd_s H h2
      have h3 : 0 ≤ xden r (xsb σ p) - xden r e ∧ xden r (xsb σ p) - xden r e ≤ 0 := h3
      omega
  rcases zN_i h with ⟨a, e1, h1⟩ | h1
  · rcases zN_i h1 with ⟨b, e2, h2⟩ | h2
    · rw [e1, e2]
      exact xie_s h2
    · exact slow h2
  · exact slow h1
def xmv (F : xF) (σ : List (Nat × xjE)) (p v : xV) : Bool := Nat.blt p.1 10 && (Nat.beq p.1 v.1 && xme F σ p.2 v.2)
theorem xmv_s (H : xH r F) {σ : List (Nat × xjE)} {φ : List xFam} (ho : xasok F σ φ = true) {p v : xV} (h : xmv F σ p v = true) : xdv (xas r σ φ) p = xdv r v := by
  unfold xmv at h
  rw [Bool.and_eq_true, Bool.and_eq_true] at h
  show (p.1, xden _ p.2) = (v.1, xden r v.2)
  rw [Nat.eq_of_beq_eq_true h.2.1, xme_s H ho h.2.2]
theorem xmv_t {σ : List (Nat × xjE)} {p v : xV} (h : xmv F σ p v = true) : Nat.blt p.1 10 = true ∧ Nat.blt v.1 10 = true := by
  unfold xmv at h
  rw [Bool.and_eq_true, Bool.and_eq_true] at h
  refine ⟨h.1, ?_⟩
  rw [← Nat.eq_of_beq_eq_true h.2.1]
  exact h.1
/-- the pattern's locals are among these -/
def xml (F : xF) (σ : List (Nat × xjE)) (lp la : List (Nat × xV)) : Bool := lp.all (fun p => la.any (fun q => Nat.beq q.1 p.1) && la.all (fun q => !(Nat.beq q.1 p.1) || xmv F σ p.2 q.2))
theorem xml_s (H : xH r F) {σ : List (Nat × xjE)} {φ : List xFam} (ho : xasok F σ φ = true) {lp la : List (Nat × xV)} (h : xml F σ lp la = true) : ysub (xdl (xas r σ φ) lp) (xdl r la) := by
  intro q hq
  obtain ⟨p, hp, e⟩ := List.mem_map.mp hq
  subst e
  have h1 := List.all_eq_true.mp h p hp
  rw [Bool.and_eq_true] at h1
  have hall : ∀ a ∈ la, a.1 = p.1 → xdv (xas r σ φ) p.2 = xdv r a.2 := by
    intro a ha e
    have h2 := List.all_eq_true.mp h1.2 a ha
    rw [e, Nat.beq_refl] at h2
    exact xmv_s H ho h2
  refine ⟨?_, fun q2 hq2 e => ?_⟩
  · obtain ⟨a, ha, hb⟩ := List.any_eq_true.mp h1.1
    have e := Nat.eq_of_beq_eq_true hb
    refine List.mem_map.mpr ⟨a, ha, ?_⟩
    show (a.1, xdv r a.2) = (p.1, xdv _ p.2)
    rw [hall a ha e, e]
  · obtain ⟨a, ha, e2⟩ := List.mem_map.mp hq2
    subst e2
    have e : a.1 = p.1 := e
    show (a.1, xdv r a.2) = (p.1, xdv _ p.2)
    rw [hall a ha e, e]
def xms (F : xF) (σ : List (Nat × xjE)) : List xV → List xV → Bool
  | [], [] => true
  | p :: l, v :: m => xmv F σ p v && xms F σ l m
  | _, _ => false
theorem xms_s (H : xH r F) {σ : List (Nat × xjE)} {φ : List xFam} (ho : xasok F σ φ = true) : ∀ {l m : List xV}, xms F σ l m = true → l.map (xdv (xas r σ φ)) = m.map (xdv r) := by
  intro l
  induction l with
  | nil => intro m h; cases m with | nil => rfl | cons v m => cases h
  | cons p l ih =>
    intro m h
    cases m with
    | nil => cases h
    | cons v m =>
      unfold xms at h
      rw [Bool.and_eq_true] at h
      rw [List.map_cons, List.map_cons, xmv_s H ho h.1, ih h.2]
/-- the same content at the places below n -/
def xtq1 (F : xF) (σ : List (Nat × xjE)) (n : Nat) (p : xV) : Nat → Nat → xT xV → Bool
  | i, _, .leaf v => Nat.ble n i || xmv F σ p v
  | i, st, .branch _ l u => Nat.ble n i || (xtq1 F σ n p i (st * 2) l && xtq1 F σ n p (i + st) (st * 2) u)
def xtq2 (F : xF) (σ : List (Nat × xjE)) (n : Nat) (v : xV) : Nat → Nat → xT xV → Bool
  | i, _, .leaf p => Nat.ble n i || xmv F σ p v
  | i, st, .branch _ l u => Nat.ble n i || (xtq2 F σ n v i (st * 2) l && xtq2 F σ n v (i + st) (st * 2) u)
def xteqv (F : xF) (σ : List (Nat × xjE)) (n : Nat) : Nat → Nat → xT xV → xT xV → Bool
  | i, st, .leaf p, t => xtq1 F σ n p i st t
  | i, st, .branch _ l u, .leaf v => xtq2 F σ n v i (st * 2) l && xtq2 F σ n v (i + st) (st * 2) u
  | i, st, .branch _ l u, .branch _ l2 u2 => Nat.ble n i || (xteqv F σ n i (st * 2) l l2 && xteqv F σ n (i + st) (st * 2) u u2)
theorem xtq1_s {σ : List (Nat × xjE)} {n : Nat} {p : xV} : ∀ (t : xT xV) (i st : Nat), xtq1 F σ n p i st t = true → 0 < st → ∀ j, j < n → j % st = i → xmv F σ p (xg0 t (j / st)) = true := by
  intro t
  induction t with
  | leaf v =>
    intro i st h h0 j hj hi
    unfold xtq1 at h
    have := xpi hi
    rw [Bool.or_eq_true, Nat.ble_eq] at h
    rcases h with h | h
    · omega
    · exact h
  | branch q l u ihl ihu =>
    intro i st h h0 j hj hi
    unfold xtq1 at h
    have := xpi hi
    rw [Bool.or_eq_true, Nat.ble_eq, Bool.and_eq_true] at h
    obtain ⟨p1, p2, p3⟩ := xpl h0 hi
    rcases h with h | h
    · omega
    · rw [xg0_br, p3]
      cases hb : Nat.beq (j / st % 2) 0 with
      | true => exact ihl _ _ h.1 (by omega) j hj (p1 (Nat.eq_of_beq_eq_true hb))
      | false => exact ihu _ _ h.2 (by omega) j hj (p2 (Nat.ne_of_beq_eq_false hb))
theorem xtq2_s {σ : List (Nat × xjE)} {n : Nat} {v : xV} : ∀ (t : xT xV) (i st : Nat), xtq2 F σ n v i st t = true → 0 < st → ∀ j, j < n → j % st = i → xmv F σ (xg0 t (j / st)) v = true := by
  intro t
  induction t with
  | leaf p =>
    intro i st h h0 j hj hi
    unfold xtq2 at h
    have := xpi hi
    rw [Bool.or_eq_true, Nat.ble_eq] at h
    rcases h with h | h
    · omega
    · exact h
  | branch q l u ihl ihu =>
    intro i st h h0 j hj hi
    unfold xtq2 at h
    have := xpi hi
    rw [Bool.or_eq_true, Nat.ble_eq, Bool.and_eq_true] at h
    obtain ⟨p1, p2, p3⟩ := xpl h0 hi
    rcases h with h | h
    · omega
    · rw [xg0_br, p3]
      cases hb : Nat.beq (j / st % 2) 0 with
      | true => exact ihl _ _ h.1 (by omega) j hj (p1 (Nat.eq_of_beq_eq_true hb))
      | false => exact ihu _ _ h.2 (by omega) j hj (p2 (Nat.ne_of_beq_eq_false hb))
theorem xteqv_s {σ : List (Nat × xjE)} {n : Nat} : ∀ (s t : xT xV) (i st : Nat), xteqv F σ n i st s t = true → 0 < st → ∀ j, j < n → j % st = i → xmv F σ (xg0 s (j / st)) (xg0 t (j / st)) = true := by
  intro s
  induction s with
  | leaf p => intro t i st h h0 j hj hi; exact xtq1_s t i st h h0 j hj hi
  | branch q l u ihl ihu =>
    intro t i st h h0 j hj hi
    have := xpi hi
    obtain ⟨p1, p2, p3⟩ := xpl h0 hi
    cases t with
    | leaf v =>
      unfold xteqv at h
      rw [Bool.and_eq_true] at h
      rw [xg0_br, p3]
      cases hb : Nat.beq (j / st % 2) 0 with
      | true => exact xtq2_s l _ _ h.1 (by omega) j hj (p1 (Nat.eq_of_beq_eq_true hb))
      | false => exact xtq2_s u _ _ h.2 (by omega) j hj (p2 (Nat.ne_of_beq_eq_false hb))
    | branch q2 l2 u2 =>
      unfold xteqv at h
      rw [Bool.or_eq_true, Nat.ble_eq, Bool.and_eq_true] at h
      rcases h with h | h
      · omega
      · rw [xg0_br, xg0_br, p3]
        cases hb : Nat.beq (j / st % 2) 0 with
        | true => exact ihl _ _ _ h.1 (by omega) j hj (p1 (Nat.eq_of_beq_eq_true hb))
        | false => exact ihu _ _ _ h.2 (by omega) j hj (p2 (Nat.ne_of_beq_eq_false hb))
theorem xteqv_c (H : xH r F) {σ : List (Nat × xjE)} {φ : List xFam} (ho : xasok F σ φ = true) {n : Nat} {s t : xT xV} (hs : xisb s = true) (ht : xisb t = true) (h : xteqv F σ n 0 1 s t = true) (j : Nat) (hj : j < n) : xct (xas r σ φ) s j = xct r t j := by
  have h1 := xteqv_s s t 0 1 h (by omega) j hj (Nat.mod_one j)
  rw [Nat.div_one] at h1
  have h2 := xmv_t h1
  rw [xct_b hs, xct_b ht, xsv_n h2.1, xsv_n h2.2]
  exact xmv_s H ho h1
/-- base trees alone -/
def xctc (tg : Nat) : xT xV → Bool
  | .leaf v => (Nat.beq v.1 tg && Nat.blt tg 10) || Nat.beq v.1 (tg + 10)
  | .branch _ l u => xctc tg l && xctc tg u
theorem xctc_s {tg : Nat} (j : Nat) : ∀ (t : xT xV) (i : Nat), xctc tg t = true → (xdv r (xsv (xg0 t i) j)).1 = tg := by
  intro t
  induction t with
  | leaf v =>
    intro i h
    have h : ((Nat.beq v.1 tg && Nat.blt tg 10) || Nat.beq v.1 (tg + 10)) = true := h
    show (xsv v j).1 = tg
    rw [Bool.or_eq_true, Bool.and_eq_true] at h
    rcases h with ⟨h, h2⟩ | h
    · have e := Nat.eq_of_beq_eq_true h
      subst e
      rw [xsv_n h2]
    · have e := Nat.eq_of_beq_eq_true h
      unfold xsv
      rw [e, show Nat.ble 10 (tg + 10) = true from Nat.ble_eq.mpr (by omega)]
      show tg + 10 - 10 = tg
      omega
  | branch p l u ihl ihu =>
    intro i h
    unfold xctc at h
    rw [Bool.and_eq_true] at h
    rw [xg0_br]
    cases Nat.beq (i % 2) 0 with
    | true => exact ihl _ h.1
    | false => exact ihu _ h.2
def xcth (tg : Nat) : xT xV → Bool
  | .leaf v => xctc tg (.leaf v)
  | .branch p l u => bif Nat.beq p 0 then xctc tg (.branch p l u) else xcth tg l && Nat.beq (xuv u).1 tg
theorem xcth_s {tg : Nat} (j : Nat) : ∀ (t : xT xV), xcth tg t = true → (xct r t j).1 = tg := by
  intro t
  induction t with
  | leaf v => intro h; exact xctc_s j (.leaf v) 0 h
  | branch p l u ihl ihu =>
    intro h
    unfold xcth at h
    cases hb : Nat.beq p 0 with
    | true =>
      rw [hb] at h
      rw [xct_b (show xisb (.branch p l u) = true from hb)]
      exact xctc_s j _ j h
    | false =>
      rw [hb] at h
      have h : (xcth tg l && Nat.beq (xuv u).1 tg) = true := h
      rw [Bool.and_eq_true] at h
      have e : xct r (.branch p l u) j = bif decide (xden r (xui u) = (j : Int)) then xdv r (xuv u) else xct r l j := by
        show (bif Nat.beq p 0 then _ else _) = _
        rw [hb]; rfl
      rw [e]
      cases decide (xden r (xui u) = (j : Int)) with
      | true => exact Nat.eq_of_beq_eq_true h.2
      | false => exact ihl h.1
/-- families by the cells that hold them: first unknown, how many, cell -/
abbrev xFw := Nat × Nat × Nat
def xphi (g : xHp) (fam : List xFw) : List xFam := fam.map fun w => (w.1, w.2.1, (xg0 g.1 w.2.2).2.2.2)
/-- a cell of the pattern is this cell -/
def xcm (F : xF) (σ : List (Nat × xjE)) (fam : List xFw) (a : Nat) (p c : xC) : Bool := Nat.beq p.1 c.1 && (Nat.beq p.2.1 c.2.1 && (match p.2.2.2 with
  | .leaf v => bif Nat.ble 10 v.1 then fam.any (fun w => Nat.beq w.1 (xfb v.2) && (Nat.beq w.2.2 a && Nat.beq w.2.1 c.2.1)) && xcth (v.1 - 10) c.2.2.2 else xisb c.2.2.2 && xteqv F σ c.2.1 0 1 (.leaf v) c.2.2.2
  | .branch q l u => Nat.beq q 0 && (xisb c.2.2.2 && xteqv F σ c.2.1 0 1 (.branch q l u) c.2.2.2)))
theorem xcm_s (H : xH r F) {σ : List (Nat × xjE)} {fam : List xFw} {g : xHp} (ho : xasok F σ (xphi g fam) = true) {a : Nat} {p : xC} (h : xcm F σ fam a p (xg0 g.1 a) = true) : xdC T (xas r σ (xphi g fam)) p = xdC T r (xg0 g.1 a) := by
  unfold xcm at h
  rw [Bool.and_eq_true, Bool.and_eq_true] at h
  obtain ⟨h1, h2, h3⟩ := h
  have e1 := Nat.eq_of_beq_eq_true h1
  have e2 := Nat.eq_of_beq_eq_true h2
  have main : ∀ j, j < (xg0 g.1 a).2.1 → xct (xas r σ (xphi g fam)) p.2.2.2 j = xct r (xg0 g.1 a).2.2.2 j := by
    intro j hj
    split at h3
    · rename_i v e
      rw [e]
      cases hb : Nat.ble 10 v.1 with
      | true =>
        rw [hb] at h3
        simp only [cond_true] at h3
        rw [Bool.and_eq_true] at h3
        obtain ⟨w, hw, hc⟩ := List.any_eq_true.mp h3.1
        rw [Bool.and_eq_true, Bool.and_eq_true] at hc
        have c1 := Nat.eq_of_beq_eq_true hc.1
        have c2 := Nat.eq_of_beq_eq_true hc.2.1
        have c3 := Nat.eq_of_beq_eq_true hc.2.2
        have hm : (w.1, w.2.1, (xg0 g.1 w.2.2).2.2.2) ∈ xphi g fam := List.mem_map.mpr ⟨w, hw, rfl⟩
        have hf := xas_fam (r := r) ho hm (j := j) (by show j < w.2.1; omega)
        have hf : xas r σ (xphi g fam) (w.1 + 64 * j) = (xct r (xg0 g.1 w.2.2).2.2.2 j).2 := hf
        have e3 : xct (xas r σ (xphi g fam)) (.leaf v) j = (v.1 - 10, xas r σ (xphi g fam) (xfb v.2 + 64 * j)) := by
          show xdv _ (xsv v j) = _
          unfold xsv
          rw [hb]; rfl
        have e4 := xcth_s (r := r) j _ h3.2
        rw [e3, ← c1, hf, c2, ← e4]
      | false =>
        rw [hb] at h3
        simp only [cond_false] at h3
        rw [Bool.and_eq_true] at h3
        exact xteqv_c H ho rfl h3.1 h3.2 j hj
    · rename_i q l u e
      rw [e]
      rw [Bool.and_eq_true, Bool.and_eq_true] at h3
      exact xteqv_c H ho (show xisb (.branch q l u) = true from h3.1) h3.2.1 h3.2.2 j hj
  show (p.1, p.2.1, fun j => bif Nat.blt j p.2.1 then xct _ p.2.2.2 j else xdf T p.1 j) = ((xg0 g.1 a).1, (xg0 g.1 a).2.1, fun j => bif Nat.blt j (xg0 g.1 a).2.1 then xct r (xg0 g.1 a).2.2.2 j else xdf T (xg0 g.1 a).1 j)
  rw [e1, e2]
  congr 2
  funext j
  by_cases hj : j < (xg0 g.1 a).2.1
  · rw [ycblt hj]; exact main j hj
  · rw [ycblf (by omega)]
    rfl
end YTD
