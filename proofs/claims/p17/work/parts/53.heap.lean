noncomputable section YT3
/-! SYMBOLIC RUNS: trees, cells, frames and what they stand for -/
/-- a tree by binary places, lowest first; a leaf stands for all places below it -/
abbrev xT (α : Type) := Lean.RArray α
def xlf {α : Type} : xT α → xT α
  | .leaf a => .leaf a
  | .branch _ l _ => l
def xrg {α : Type} : xT α → xT α
  | .leaf a => .leaf a
  | .branch _ _ r => r
def xg0 {α : Type} (t : xT α) : Nat → α := Lean.RArray.rec (motive := fun _ => Nat → α) (fun a _ => a) (fun _ _ _ l r i => Bool.rec (motive := fun _ => α) (r (Nat.div i 2)) (l (Nat.div i 2)) (Nat.beq (Nat.mod i 2) 0)) t
def xset {α : Type} : Nat → xT α → Nat → α → xT α
  | 0, _, _, v => .leaf v
  | d + 1, t, i, v => bif Nat.beq (i % 2) 0 then .branch 0 (xset d (xlf t) (i / 2) v) (xrg t) else .branch 0 (xlf t) (xset d (xrg t) (i / 2) v)
/-- the same, carried on with its whole way made -/
def xsetK {α : Type} (d : Nat) : xT α → Nat → α → (xT α → Bool) → Bool := Nat.rec (motive := fun _ => xT α → Nat → α → (xT α → Bool) → Bool) (fun _ _ v k => k (.leaf v))
  (fun _ ih t i v k => Lean.RArray.rec (motive := fun _ => Bool)
    (fun a => Bool.rec (motive := fun _ => Bool) (ih (.leaf a) (Nat.div i 2) v (fun r => k (.branch 0 (.leaf a) r))) (ih (.leaf a) (Nat.div i 2) v (fun l => k (.branch 0 l (.leaf a)))) (Nat.beq (Nat.mod i 2) 0))
    (fun _ l r _ _ => Bool.rec (motive := fun _ => Bool) (ih r (Nat.div i 2) v (fun r => k (.branch 0 l r))) (ih l (Nat.div i 2) v (fun l => k (.branch 0 l r))) (Nat.beq (Nat.mod i 2) 0)) t) d
theorem xbr {α : Type} (c : Bool) (a b : α) : Bool.rec (motive := fun _ => α) b a c = bif c then a else b := by cases c <;> rfl
theorem xsetK_s {α : Type} : ∀ (d : Nat) (t : xT α) (i : Nat) (v : α) (k : xT α → Bool), xsetK d t i v k = k (xset d t i v) := by
  intro d
  induction d with
  | zero => intro t i v k; rfl
  | succ d ih =>
    intro t i v k
    cases t with
    | leaf a =>
      show Bool.rec (motive := fun _ => Bool) (xsetK d (.leaf a) (i / 2) v (fun r => k (.branch 0 (.leaf a) r))) (xsetK d (.leaf a) (i / 2) v (fun l => k (.branch 0 l (.leaf a)))) (Nat.beq (i % 2) 0) = k (bif Nat.beq (i % 2) 0 then _ else _)
      cases Nat.beq (i % 2) 0 with
      | true => exact ih _ _ _ _
      | false => exact ih _ _ _ _
    | branch p l r =>
      show Bool.rec (motive := fun _ => Bool) (xsetK d r (i / 2) v (fun r => k (.branch 0 l r))) (xsetK d l (i / 2) v (fun l => k (.branch 0 l r))) (Nat.beq (i % 2) 0) = k (bif Nat.beq (i % 2) 0 then _ else _)
      cases Nat.beq (i % 2) 0 with
      | true => exact ih _ _ _ _
      | false => exact ih _ _ _ _
theorem xg0_br {α : Type} {p : Nat} {l r : xT α} {i : Nat} : xg0 (.branch p l r) i = bif Nat.beq (i % 2) 0 then xg0 l (i / 2) else xg0 r (i / 2) := by
  show Bool.rec (motive := fun _ => α) (xg0 r (i / 2)) (xg0 l (i / 2)) (Nat.beq (i % 2) 0) = _
  exact xbr _ _ _
theorem xg0_at {α : Type} (t : xT α) (j : Nat) : xg0 t j = bif Nat.beq (j % 2) 0 then xg0 (xlf t) (j / 2) else xg0 (xrg t) (j / 2) := by
  cases t with
  | leaf a => cases Nat.beq (j % 2) 0 <;> rfl
  | branch p l r => exact xg0_br
theorem xg0_set {α : Type} (v : α) : ∀ (d : Nat) (t : xT α) (i j : Nat), i < 2 ^ d → j < 2 ^ d → xg0 (xset d t i v) j = if j = i then v else xg0 t j := by
  intro d
  induction d with
  | zero =>
    intro t i j hi hj
    have h0 : i = 0 := by omega
    have h1 : j = 0 := by omega
    rw [h0, h1]; rfl
  | succ d ih =>
    intro t i j hi hj
    have hi2 : i / 2 < 2 ^ d := by rw [Nat.pow_succ] at hi; omega
    have hj2 : j / 2 < 2 ^ d := by rw [Nat.pow_succ] at hj; omega
    rw [xg0_at t j]
    show xg0 (bif Nat.beq (i % 2) 0 then .branch 0 (xset d (xlf t) (i / 2) v) (xrg t) else .branch 0 (xlf t) (xset d (xrg t) (i / 2) v)) j = _
    cases hb : Nat.beq (i % 2) 0 with
    | true =>
      have hi0 := Nat.eq_of_beq_eq_true hb
      rw [show xg0 (bif true then .branch 0 (xset d (xlf t) (i / 2) v) (xrg t) else .branch 0 (xlf t) (xset d (xrg t) (i / 2) v)) j = bif Nat.beq (j % 2) 0 then xg0 (xset d (xlf t) (i / 2) v) (j / 2) else xg0 (xrg t) (j / 2) from xg0_br]
      cases hc : Nat.beq (j % 2) 0 with
      | true =>
        have hj0 := Nat.eq_of_beq_eq_true hc
        show xg0 (xset d (xlf t) (i / 2) v) (j / 2) = if j = i then v else xg0 (xlf t) (j / 2)
        rw [ih _ _ _ hi2 hj2]
        by_cases h : j = i
        · rw [if_pos (by omega), if_pos h]
        · rw [if_neg (by omega), if_neg h]
      | false =>
        have hj0 := Nat.ne_of_beq_eq_false hc
        show xg0 (xrg t) (j / 2) = if j = i then v else xg0 (xrg t) (j / 2)
        rw [if_neg (by omega)]
    | false =>
      have hi0 := Nat.ne_of_beq_eq_false hb
      rw [show xg0 (bif false then .branch 0 (xset d (xlf t) (i / 2) v) (xrg t) else .branch 0 (xlf t) (xset d (xrg t) (i / 2) v)) j = bif Nat.beq (j % 2) 0 then xg0 (xlf t) (j / 2) else xg0 (xset d (xrg t) (i / 2) v) (j / 2) from xg0_br]
      cases hc : Nat.beq (j % 2) 0 with
      | true =>
        have hj0 := Nat.eq_of_beq_eq_true hc
        show xg0 (xlf t) (j / 2) = if j = i then v else xg0 (xlf t) (j / 2)
        rw [if_neg (by omega)]
      | false =>
        have hj0 := Nat.ne_of_beq_eq_false hc
        show xg0 (xset d (xrg t) (i / 2) v) (j / 2) = if j = i then v else xg0 (xrg t) (j / 2)
        rw [ih _ _ _ hi2 hj2]
        by_cases h : j = i
        · rw [if_pos (by omega), if_pos h]
        · rw [if_neg (by omega), if_neg h]
/-- a tree out of a function -/
def xof {α : Type} : Nat → (Nat → α) → xT α
  | 0, f => .leaf (f 0)
  | d + 1, f => .branch 0 (xof d (fun i => f (2 * i))) (xof d (fun i => f (2 * i + 1)))
theorem xg0_of {α : Type} : ∀ (d : Nat) (f : Nat → α) (i : Nat), i < 2 ^ d → xg0 (xof d f) i = f i := by
  intro d
  induction d with
  | zero =>
    intro f i h
    have h0 : i = 0 := by omega
    rw [h0]; rfl
  | succ d ih =>
    intro f i h
    rw [show xg0 (xof (d + 1) f) i = bif Nat.beq (i % 2) 0 then xg0 (xof d (fun i => f (2 * i))) (i / 2) else xg0 (xof d (fun i => f (2 * i + 1))) (i / 2) from xg0_br]
    have h2 : i / 2 < 2 ^ d := by rw [Nat.pow_succ] at h; omega
    cases hb : Nat.beq (i % 2) 0 with
    | true =>
      have := Nat.eq_of_beq_eq_true hb
      show xg0 _ (i / 2) = f i
      rw [ih _ _ h2]
      congr 1; omega
    | false =>
      have := Nat.ne_of_beq_eq_false hb
      show xg0 _ (i / 2) = f i
      rw [ih _ _ h2]
      congr 1; omega
/-! what is worked out before it goes on -/
def xfn (n : Nat) (k : Nat → Bool) : Bool := Nat.rec (motive := fun _ => Bool) (k 0) (fun m _ => k m) (Nat.add n 1)
theorem xfn_s (n : Nat) (k : Nat → Bool) : xfn n k = k n := rfl
def xfi (v : Int) (k : Int → Bool) : Bool := match v with
  | .ofNat n => xfn n (fun n => k (.ofNat n))
  | .negSucc n => xfn n (fun n => k (.negSucc n))
theorem xfi_s (v : Int) (k : Int → Bool) : xfi v k = k v := by
  cases v with
  | ofNat n => exact xfn_s n (fun n => k (.ofNat n))
  | negSucc n => exact xfn_s n (fun n => k (.negSucc n))
def xfe (e : xjE) (k : xjE → Bool) : Bool := match e with
  | .num v => xfi v (fun v => k (.num v))
  | .add a b => k (.add a b)
  | e => k e
theorem xfe_s (e : xjE) (k : xjE → Bool) : xfe e k = k e := by
  unfold xfe
  split
  · exact xfi_s _ _
  · rfl
  · rfl
def xfil (p : Nat × xV → Bool) (l : List (Nat × xV)) : (List (Nat × xV) → Bool) → Bool := List.rec (motive := fun _ => (List (Nat × xV) → Bool) → Bool) (fun k => k []) (fun q _ ih k => ih (fun l2 => bif p q then k (q :: l2) else k l2)) l
theorem xfil_s (p : Nat × xV → Bool) : ∀ (l : List (Nat × xV)) (k : List (Nat × xV) → Bool), xfil p l k = k (l.filter p) := by
  intro l
  induction l with
  | nil => intro k; rfl
  | cons q l ih =>
    intro k
    show xfil p l (fun l2 => bif p q then k (q :: l2) else k l2) = _
    rw [ih, List.filter_cons]
    cases p q <;> rfl
/-! what values, locals, cells stand for -/
def xdv (r : Nat → Int) (v : xV) : ycV := (v.1, xden r v.2)
def xdl (r : Nat → Int) (l : List (Nat × xV)) : List (Nat × ycV) := l.map fun q => (q.1, xdv r q.2)
def xlget (l : List (Nat × xV)) : Nat → Option xV := List.rec (motive := fun _ => Nat → Option xV) (fun _ => none) (fun q _ ih i => bif Nat.beq q.1 i then some q.2 else ih i) l
theorem xlget_s (r : Nat → Int) : ∀ (l : List (Nat × xV)) (i : Nat), yclget (xdl r l) i = (xlget l i).map (xdv r) := by
  intro l i
  induction l with
  | nil => rfl
  | cons q l ih =>
    show (bif Nat.beq q.1 i then some (xdv r q.2) else yclget (xdl r l) i) = (bif Nat.beq q.1 i then some q.2 else xlget l i).map (xdv r)
    cases Nat.beq q.1 i with
    | true => rfl
    | false => exact ih
def xst1 (l : List (Nat × xV)) (i : Nat) (v : xV) (k : List (Nat × xV) → Bool) : Bool := xfil (fun q => !(Nat.beq q.1 i) && !(Nat.beq (q.1 + 1) i && Nat.beq q.2.1 1)) l (fun l => k ((i, v) :: l))
def xst2 (l : List (Nat × xV)) (i : Nat) (v : xV) (k : List (Nat × xV) → Bool) : Bool := xfil (fun q => !(Nat.beq q.1 i) && (!(Nat.beq q.1 (i + 1)) && !(Nat.beq (q.1 + 1) i && Nat.beq q.2.1 1))) l (fun l => k ((i, v) :: l))
def xdr (l : List (Nat × xV)) (i : Nat) (k : List (Nat × xV) → Bool) : Bool := xfil (fun q => !(Nat.beq q.1 i) && !(Nat.beq (q.1 + 1) i && Nat.beq q.2.1 1)) l k
theorem xst1_s {r : Nat → Int} {l : List (Nat × xV)} {i : Nat} {v : xV} {k : List (Nat × xV) → Bool} (h : xst1 l i v k = true) : ∃ l2, k l2 = true ∧ xdl r l2 = ycst1 (xdl r l) i (xdv r v) := by
  unfold xst1 at h
  rw [xfil_s] at h
  refine ⟨_, h, ?_⟩
  unfold ycst1 xdl
  rw [List.map_cons, List.filter_map]
  rfl
theorem xst2_s {r : Nat → Int} {l : List (Nat × xV)} {i : Nat} {v : xV} {k : List (Nat × xV) → Bool} (h : xst2 l i v k = true) : ∃ l2, k l2 = true ∧ xdl r l2 = ycst2 (xdl r l) i (xdv r v) := by
  unfold xst2 at h
  rw [xfil_s] at h
  refine ⟨_, h, ?_⟩
  unfold ycst2 xdl
  rw [List.map_cons, List.filter_map]
  rfl
theorem xdr_s {r : Nat → Int} {l : List (Nat × xV)} {i : Nat} {k : List (Nat × xV) → Bool} (h : xdr l i k = true) : ∃ l2, k l2 = true ∧ xdl r l2 = ycdrop (xdl r l) i := by
  unfold xdr at h
  rw [xfil_s] at h
  refine ⟨_, h, ?_⟩
  unfold ycdrop xdl
  rw [List.filter_map]
  rfl
/-- kind, length, depth of its tree, what it holds -/
abbrev xC := Nat × Nat × Nat × xT xV
/-! what a cell holds: a tree of values; a value of tag 10 or more is a family of unknowns, by the slot; over the tree may lie slots written at places that are terms -/
def xfb : xjE → Nat
  | .num z => z.toNat
  | _ => 0
def xsv (v : xV) (j : Nat) : xV := bif Nat.ble 10 v.1 then (v.1 - 10, .var (xfb v.2 + 64 * j)) else v
def xui (u : xT xV) : xjE := (xg0 u 0).2
def xuv (u : xT xV) : xV := xg0 u 1
def xup (e : xjE) (v : xV) : xT xV := .branch 0 (.leaf (0, e)) (.leaf v)
def xisb : xT xV → Bool
  | .leaf _ => true
  | .branch p _ _ => Nat.beq p 0
def xct (r : Nat → Int) : xT xV → Nat → ycV
  | .leaf v, j => xdv r (xsv v j)
  | .branch p l u, j => bif Nat.beq p 0 then xdv r (xsv (xg0 (.branch p l u) j) j) else bif decide (xden r (xui u) = (j : Int)) then xdv r (xuv u) else xct r l j
theorem xct_b {r : Nat → Int} {t : xT xV} (h : xisb t = true) (j : Nat) : xct r t j = xdv r (xsv (xg0 t j) j) := by
  cases t with
  | leaf v => rfl
  | branch p l u =>
    have h : Nat.beq p 0 = true := h
    show (bif Nat.beq p 0 then _ else _) = _
    rw [h]; rfl
theorem xisb_set {d : Nat} {t : xT xV} {i : Nat} {v : xV} : xisb (xset d t i v) = true := by
  cases d with
  | zero => rfl
  | succ d =>
    show xisb (bif Nat.beq (i % 2) 0 then _ else _) = true
    cases Nat.beq (i % 2) 0 <;> rfl
theorem xsv_n {v : xV} (h : Nat.blt v.1 10 = true) (j : Nat) : xsv v j = v := by
  unfold xsv
  have h : v.1 < 10 := Nat.ble_eq.mp h
  rw [show Nat.ble 10 v.1 = false from by
    cases hb : Nat.ble 10 v.1 with
    | false => rfl
    | true => have := Nat.ble_eq.mp hb; omega]
  rfl
theorem xct_set {r : Nat → Int} {d : Nat} {t : xT xV} {i j : Nat} {v : xV} (hb : xisb t = true) (hv : Nat.blt v.1 10 = true) (hi : i < 2 ^ d) (hj : j < 2 ^ d) : xct r (xset d t i v) j = if j = i then xdv r v else xct r t j := by
  rw [xct_b xisb_set, xct_b hb, xg0_set v d t i j hi hj]
  by_cases h : j = i
  · rw [if_pos h, if_pos h, xsv_n hv]
  · rw [if_neg h, if_neg h]
/-- written at a place that is a term -/
def xpush (t : xT xV) (e : xjE) (v : xV) : xT xV := match t with
  | .leaf w => bif Nat.blt w.1 10 && (Nat.beq w.1 v.1 && xeq w.2 v.2) then .leaf w else .branch 1 (.leaf w) (xup e v)
  | .branch p l u => bif Nat.beq p 0 then .branch 1 (.branch p l u) (xup e v) else bif xeq (xui u) e then .branch 1 l (xup e v) else .branch 1 (.branch p l u) (xup e v)
/-- the same, carried on -/
def xpushK (t : xT xV) (e : xjE) (v : xV) (k : xT xV → Bool) : Bool := match t with
  | .leaf w => bif Nat.blt w.1 10 && (Nat.beq w.1 v.1 && xeq w.2 v.2) then k (.leaf w) else k (.branch 1 (.leaf w) (.branch 0 (.leaf (0, e)) (.leaf v)))
  | .branch p l u => bif Nat.beq p 0 then k (.branch 1 (.branch p l u) (.branch 0 (.leaf (0, e)) (.leaf v))) else bif xeq (xui u) e then k (.branch 1 l (.branch 0 (.leaf (0, e)) (.leaf v))) else k (.branch 1 (.branch p l u) (.branch 0 (.leaf (0, e)) (.leaf v)))
theorem xpushK_s (t : xT xV) (e : xjE) (v : xV) (k : xT xV → Bool) : xpushK t e v k = k (xpush t e v) := by
  unfold xpushK xpush
  split
  · rename_i w
    cases Nat.blt w.1 10 && (Nat.beq w.1 v.1 && xeq w.2 v.2) <;> rfl
  · rename_i p l u
    cases Nat.beq p 0 with
    | true => rfl
    | false => cases xeq (xui u) e <;> rfl
theorem xct_up {r : Nat → Int} {t : xT xV} {e : xjE} {v : xV} (j : Nat) : xct r (.branch 1 t (xup e v)) j = if xden r e = (j : Int) then xdv r v else xct r t j := by
  show (bif decide (xden r e = (j : Int)) then xdv r v else xct r t j) = _
  by_cases h : xden r e = (j : Int)
  · rw [decide_eq_true h, if_pos h]; rfl
  · rw [decide_eq_false h, if_neg h]; rfl
theorem xct_push {r : Nat → Int} {t : xT xV} {e : xjE} {v : xV} (j : Nat) : xct r (xpush t e v) j = if xden r e = (j : Int) then xdv r v else xct r t j := by
  unfold xpush
  split
  · rename_i w
    cases h : Nat.blt w.1 10 && (Nat.beq w.1 v.1 && xeq w.2 v.2) with
    | true =>
      rw [Bool.and_eq_true, Bool.and_eq_true] at h
      have e1 : w.1 = v.1 := Nat.eq_of_beq_eq_true h.2.1
      have e2 : w.2 = v.2 := xeq_s h.2.2
      show xdv r (xsv w j) = if _ then xdv r v else xdv r (xsv w j)
      rw [xsv_n h.1]
      have e3 : xdv r w = xdv r v := by
        show (w.1, xden r w.2) = (v.1, xden r v.2)
        rw [e1, e2]
      rw [e3]
      split <;> rfl
    | false => exact xct_up j
  · rename_i p l u
    cases h0 : Nat.beq p 0 with
    | true => exact xct_up j
    | false =>
      simp only [cond_false]
      cases h1 : xeq (xui u) e with
      | true =>
        have e1 := xeq_s h1
        show xct r (.branch 1 l (xup e v)) j = _
        rw [xct_up]
        by_cases h2 : xden r e = (j : Int)
        · rw [if_pos h2, if_pos h2]
        · rw [if_neg h2, if_neg h2]
          show _ = (bif Nat.beq p 0 then _ else bif decide (xden r (xui u) = (j : Int)) then _ else xct r l j)
          rw [h0, e1, decide_eq_false h2]; rfl
      | false => exact xct_up j
/-- cells, how many, whether the next one's address is known -/
abbrev xHp := xT xC × Nat × Bool
abbrev xFm := Nat × List (Nat × xV) × List xV
def xdf (T : ycT) (k j : Nat) : ycV := bif Nat.blt k 14 then ytDF T k j else ycadf k
def xdC (T : ycT) (r : Nat → Int) (c : xC) : ycC := (c.1, c.2.1, fun j => bif Nat.blt j c.2.1 then xct r c.2.2.2 j else xdf T c.1 j)
def xdH (T : ycT) (r : Nat → Int) (g : xHp) : ycH := (fun a => bif Nat.blt a g.2.1 then xdC T r (xg0 g.1 a) else (0, 0, fun _ => (0, 0)), g.2.1, g.2.2)
def xdF (r : Nat → Int) (f : xFm) : ycF := (f.1, xdl r f.2.1, f.2.2.map (xdv r))
theorem xdH_at {T : ycT} {r : Nat → Int} {g : xHp} {a : Nat} (h : Nat.blt a g.2.1 = true) : (xdH T r g).1 a = xdC T r (xg0 g.1 a) := by
  show (bif Nat.blt a g.2.1 then _ else _) = _
  rw [h]; rfl
/-- a heap with one cell's content written anew -/
theorem xwrc {T : ycT} {r : Nat → Int} {g : xHp} {a i : Nat} {v : ycV} {c n d : Nat} {t t2 : xT xV} (e : xg0 g.1 a = (c, n, d, t)) (h2 : g.2.1 ≤ 4096) (h3 : a < g.2.1) (h4 : i < n) (ht : ∀ j, j < n → xct r t2 j = if j = i then v else xct r t j) : xdH T r (xset 12 g.1 a (c, n, d, t2), g.2.1, g.2.2) = (ycup (xdH T r g).1 a ((xdC T r (xg0 g.1 a)).1, (xdC T r (xg0 g.1 a)).2.1, ycup (xdC T r (xg0 g.1 a)).2.2 i v), (xdH T r g).2) := by
  have p12 : (2 : Nat) ^ 12 = 4096 := by decide
  rw [e]
  show (_, _, _) = (_, _, _)
  congr 1
  funext b
  show (bif Nat.blt b g.2.1 then xdC T r (xg0 (xset 12 g.1 a (c, n, d, t2)) b) else (0, 0, fun _ => (0, 0))) = ycup (xdH T r g).1 a _ b
  by_cases hb : b < g.2.1
  · rw [xg0_set _ 12 _ _ _ (by omega) (by omega), ycblt hb]
    by_cases hab : b = a
    · subst hab
      rw [if_pos rfl, ycup_eq]
      show (c, n, _) = (c, n, _)
      congr 2
      funext j
      show (bif Nat.blt j n then xct r t2 j else xdf T c j) = ycup (fun j => bif Nat.blt j n then xct r t j else xdf T c j) i v j
      by_cases hj : j < n
      · rw [ht j hj]
        by_cases hij : j = i
        · subst hij
          rw [if_pos rfl, ycup_eq, ycblt hj]; rfl
        · rw [if_neg hij, ycup_ne hij]
      · rw [ycup_ne (by omega)]
        rw [ycblf (by omega)]; rfl
    · rw [if_neg hab, ycup_ne hab]
      show _ = (bif Nat.blt b g.2.1 then _ else _)
      rw [ycblt hb]
  · rw [ycup_ne (by omega)]
    show _ = (bif Nat.blt b g.2.1 then _ else _)
    rw [ycblf (show g.2.1 ≤ b by omega)]
    rfl
/-- a heap with one slot written anew -/
def xwr (g : xHp) (a i : Nat) (v : xV) (k : xHp → Bool) : Bool := match xg0 g.1 a with
  | (c, n, d, t) => Nat.ble n (2 ^ d) && (Nat.ble g.2.1 4096 && (Nat.blt a g.2.1 && (Nat.blt i n && (Nat.blt v.1 10 && (bif xisb t then xsetK d t i v (fun t2 => xsetK 12 g.1 a (c, n, d, t2) (fun u => k (u, g.2.1, g.2.2))) else xpushK t (.num (i : Int)) v (fun t2 => xsetK 12 g.1 a (c, n, d, t2) (fun u => k (u, g.2.1, g.2.2))))))))
theorem xwr_s {T : ycT} {r : Nat → Int} {g : xHp} {a i : Nat} {v : xV} {k : xHp → Bool} (h : xwr g a i v k = true) : ∃ g2, k g2 = true ∧ xdH T r g2 = (ycup (xdH T r g).1 a ((xdC T r (xg0 g.1 a)).1, (xdC T r (xg0 g.1 a)).2.1, ycup (xdC T r (xg0 g.1 a)).2.2 i (xdv r v)), (xdH T r g).2) := by
  unfold xwr at h
  split at h
  rename_i c n d t e
  simp only [Bool.and_eq_true, xsetK_s, xpushK_s] at h
  obtain ⟨h1, h2, h3, h4, h5, h6⟩ := h
  have h1 := Nat.ble_eq.mp h1
  have h2 := Nat.ble_eq.mp h2
  have h3' : a < g.2.1 := Nat.ble_eq.mp h3
  have h4' : i < n := Nat.ble_eq.mp h4
  cases hb : xisb t with
  | true =>
    rw [hb] at h6
    exact ⟨_, h6, xwrc e h2 h3' h4' (fun j hj => xct_set hb h5 (by omega) (by omega))⟩
  | false =>
    rw [hb] at h6
    refine ⟨_, h6, xwrc e h2 h3' h4' (fun j hj => ?_)⟩
    rw [xct_push]
    show (if (i : Int) = (j : Int) then _ else _) = _
    by_cases hij : j = i
    · rw [if_pos (by omega), if_pos hij]
    · rw [if_neg (by omega), if_neg hij]
/-- the same at a place that is a term; it is known to be within -/
def xwrs (g : xHp) (a : Nat) (e : xjE) (v : xV) (k : xHp → Bool) : Bool := match xg0 g.1 a with
  | (c, n, d, t) => Nat.ble g.2.1 4096 && (Nat.blt a g.2.1 && xpushK t e v (fun t2 => xsetK 12 g.1 a (c, n, d, t2) (fun u => k (u, g.2.1, g.2.2))))
theorem xwrs_s {T : ycT} {r : Nat → Int} {g : xHp} {a : Nat} {e : xjE} {v : xV} {k : xHp → Bool} (h : xwrs g a e v k = true) (h0 : 0 ≤ xden r e) (h1 : xden r e < ((xg0 g.1 a).2.1 : Int)) : ∃ g2, k g2 = true ∧ xdH T r g2 = (ycup (xdH T r g).1 a ((xdC T r (xg0 g.1 a)).1, (xdC T r (xg0 g.1 a)).2.1, ycup (xdC T r (xg0 g.1 a)).2.2 (xden r e).toNat (xdv r v)), (xdH T r g).2) := by
  unfold xwrs at h
  split at h
  rename_i c n d t e1
  simp only [Bool.and_eq_true, xsetK_s, xpushK_s] at h
  obtain ⟨h2, h3, h4⟩ := h
  have h2 := Nat.ble_eq.mp h2
  have h3' : a < g.2.1 := Nat.ble_eq.mp h3
  rw [e1] at h1
  have h1 : xden r e < (n : Int) := h1
  refine ⟨_, h4, xwrc e1 h2 h3' (by omega) (fun j hj => ?_)⟩
  rw [xct_push]
  by_cases hij : j = (xden r e).toNat
  · rw [if_pos (by omega), if_pos hij]
  · rw [if_neg (by omega), if_neg hij]
/-- a cell more -/
def xmk (g : xHp) (c n d : Nat) (t : xT xV) (k : xHp → Bool) : Bool := Nat.blt g.2.1 4096 && (Nat.ble n (2 ^ d) && xsetK 12 g.1 g.2.1 (c, n, d, t) (fun u => xfn (g.2.1 + 1) (fun m => k (u, m, true))))
theorem xmk_s {T : ycT} {r : Nat → Int} {g : xHp} {c n d : Nat} {t : xT xV} {k : xHp → Bool} {f : Nat → ycV} (h : xmk g c n d t k = true) (hf : ∀ j, j < n → xct r t j = f j) (hf2 : ∀ j, n ≤ j → xdf T c j = f j) : ∃ g2, k g2 = true ∧ xdH T r g2 = ycmk (xdH T r g) (c, n, f) := by
  unfold xmk at h
  rw [Bool.and_eq_true, Bool.and_eq_true, xsetK_s, xfn_s] at h
  obtain ⟨h1, h2, h3⟩ := h
  have h1 : g.2.1 < 4096 := Nat.ble_eq.mp h1
  have p12 : (2 : Nat) ^ 12 = 4096 := by decide
  refine ⟨_, h3, ?_⟩
  show (_, _, _) = (_, _, _)
  congr 1
  funext b
  show (bif Nat.blt b (g.2.1 + 1) then xdC T r (xg0 (xset 12 g.1 g.2.1 (c, n, d, t)) b) else (0, 0, fun _ => (0, 0))) = ycup (xdH T r g).1 g.2.1 (c, n, f) b
  by_cases hb : b < g.2.1 + 1
  · rw [xg0_set _ 12 _ _ _ (by omega) (by omega), ycblt hb]
    by_cases hab : b = g.2.1
    · subst hab
      rw [if_pos rfl, ycup_eq]
      show (c, n, _) = (c, n, _)
      congr 2
      funext j
      show (bif Nat.blt j n then xct r t j else xdf T c j) = f j
      by_cases hj : j < n
      · rw [ycblt hj]; exact hf j hj
      · rw [ycblf (by omega)]; exact hf2 j (by omega)
    · rw [if_neg hab, ycup_ne hab]
      show _ = (bif Nat.blt b g.2.1 then _ else _)
      rw [ycblt (show b < g.2.1 by omega)]
  · rw [ycup_ne (by omega), ycblf (by omega)]
    show _ = (bif Nat.blt b g.2.1 then _ else _)
    rw [ycblf (show g.2.1 ≤ b by omega)]
    rfl
end YT3
