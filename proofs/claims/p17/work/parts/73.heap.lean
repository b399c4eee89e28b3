noncomputable section EZ3
/-! E2: the heap as layers: what was written (newest first), and versions that took the place of some cells -/
variable {Q : ezR → Prop} {T : ycT} {r : ezR} {F : xF}
/-- 0: a cell, a slot, what was written there; v + 1: version v for the cells of a set -/
abbrev ezLy := Nat × (xjE × xjE × xjE) × Nat
/-- layers, the next number that is free, the flag -/
abbrev ezHp := List ezLy × Nat × Bool
def ezwr (H : Int → Int → Int) (c j x : Int) : Int → Int → Int := fun a i => if a = c ∧ i = j then x else H a i
theorem ezwr_eq (H : Int → Int → Int) (c j x : Int) : ezwr H c j x c j = x := if_pos ⟨rfl, rfl⟩
theorem ezwr_ne {H : Int → Int → Int} {c j x a i : Int} (h : ¬ (a = c ∧ i = j)) : ezwr H c j x a i = H a i := if_neg h
def ezhh (r : ezR) : List ezLy → Int → Int → Int
  | [] => r.2.1 0
  | (0, w, _) :: l => ezwr (ezhh r l) (ezden r w.1) (ezden r w.2.1) (ezden r w.2.2)
  | (v + 1, _, m) :: l => fun a j => bif Nat.testBit m (ezlc a j) then r.2.1 v a j else ezhh r l a j
/-- what a heap of numbers is in the clean machine -/
def ezhp1 (T : ycT) (H : Int → Int → Int) (kn : Bool) : ycH := (fun a => bif Nat.blt a 512 then (ezK a, ezL a, fun j => bif Nat.blt j (ezL a) then ((ezSl a j).1, H a j) else xdf T (ezK a) j) else (0, 0, fun _ => (0, 0)), 512, kn)
def ezhp (T : ycT) (r : ezR) (g : ezHp) : ycH := ezhp1 T (ezhh r g.1) (r.2.2 && g.2.2)
theorem ezhp1_at {H : Int → Int → Int} {kn : Bool} {a : Nat} (h : a < 512) : (ezhp1 T H kn).1 a = (ezK a, ezL a, fun j => bif Nat.blt j (ezL a) then ((ezSl a j).1, H a j) else xdf T (ezK a) j) := by
  show (bif Nat.blt a 512 then _ else _) = _
  rw [ycblt h]; rfl
theorem ezhp1_up {H : Int → Int → Int} {kn : Bool} {c j : Nat} {x : Int} (hc : c < 512) (hj : j < ezL c) :
    ((ycup (ezhp1 T H kn).1 c (ezK c, ezL c, ycup (fun i => bif Nat.blt i (ezL c) then ((ezSl c i).1, H c i) else xdf T (ezK c) i) j ((ezSl c j).1, x)), (ezhp1 T H kn).2) : ycH) = ezhp1 T (ezwr H c j x) kn := by
  refine Prod.ext (funext fun a => ?_) rfl
  show ycup (ezhp1 T H kn).1 c _ a = (ezhp1 T (ezwr H c j x) kn).1 a
  unfold ycup
  by_cases h : a = c
  · subst h
    rw [if_pos rfl, ezhp1_at hc]
    refine Prod.ext rfl (Prod.ext rfl (funext fun i => ?_))
    show (if i = j then _ else _) = (bif Nat.blt i (ezL a) then ((ezSl a i).1, ezwr H a j x a i) else xdf T (ezK a) i)
    by_cases h2 : i = j
    · subst h2
      rw [if_pos rfl, ycblt hj, ezwr_eq]; rfl
    · rw [if_neg h2, ezwr_ne (by omega)]
  · rw [if_neg h]
    by_cases ha : a < 512
    · rw [ezhp1_at ha, ezhp1_at ha]
      refine Prod.ext rfl (Prod.ext rfl (funext fun i => ?_))
      show (bif Nat.blt i (ezL a) then ((ezSl a i).1, H a i) else xdf T (ezK a) i) = (bif Nat.blt i (ezL a) then ((ezSl a i).1, ezwr H c j x a i) else xdf T (ezK a) i)
      rw [ezwr_ne (by omega)]
    · show (bif Nat.blt a 512 then _ else _) = (bif Nat.blt a 512 then _ else _)
      rw [ycblf (by omega)]; rfl
/-! what a term may be: few values, or [] -/
def ezint (p : Int × Int) (v : Int) : Bool := xle p.1 v && xle v p.2
def ezfew (F : xF) (e : xjE) : List Int := bif xle ((eziv F e).2 - (eziv F e).1) 64 then (List.range ((eziv F e).2 - (eziv F e).1 + 1).toNat).map (fun k : Nat => (eziv F e).1 + ((k : Nat) : Int)) else []
theorem ezfew_s (H : ezH Q r F) {e : xjE} (h : ezfew F e ≠ []) : ezden r e ∈ ezfew F e := by
  have a := eziv_s H e
  unfold ezfew at h ⊢
  cases hb : xle ((eziv F e).2 - (eziv F e).1) 64 with
  | false => rw [hb] at h; exact absurd rfl h
  | true => exact List.mem_map.mpr ⟨(ezden r e - (eziv F e).1).toNat, List.mem_range.mpr (by omega), by omega⟩
/-- those of a list that lie within the ends of a term -/
def ezcut (F : xF) (e : xjE) (l : List Nat) : List Int := (l.map fun k : Nat => ((k : Nat) : Int)).filter (ezint (eziv F e))
theorem ezcut_s (H : ezH Q r F) {e : xjE} {l : List Nat} (h : ∃ n ∈ l, ezden r e = ((n : Nat) : Int)) : ezden r e ∈ ezcut F e l := by
  obtain ⟨n, hn, h⟩ := h
  have a := eziv_s H e
  refine List.mem_filter.mpr ⟨List.mem_map.mpr ⟨n, hn, h.symm⟩, ?_⟩
  unfold ezint
  rw [Bool.and_eq_true, xle_iff, xle_iff]
  exact a
/-- all sums of two -/
def ezsums (l m : List Int) : List Int := l.flatMap fun x => m.map fun y => x + y
def ezvals (F : xF) : xjE → List Int
  | .num z => [z]
  | .var i => (match ezDv i with | [] => ezfew F (.var i) | n :: l => ezcut F (.var i) (n :: l))
  | .add a b => (match ezvals F a, ezvals F b with
    | x :: l, y :: m => ezsums (x :: l) (y :: m)
    | _, _ => [])
  | .mul a b => (match a with
    | .num z => (ezfew F b).map fun y => z * y
    | _ => [])
  | .pow a v => (match a with
    | .mul c (.num z) => (match ezvals F c with
      | [] => ezfew F (.pow (.mul c (.num z)) v)
      | x :: l => bif (x :: l).all (fun n => xle 0 n && (xle 0 z && (Nat.blt n.toNat 512 && (Nat.blt z.toNat (ezL n.toNat) && !(ezSl n.toNat z.toNat).2.2.2.isEmpty)))) then ezcut F (.pow (.mul c (.num z)) v) ((x :: l).flatMap fun n => (ezSl n.toNat z.toNat).2.2.2) else ezfew F (.pow (.mul c (.num z)) v))
    | _ => ezfew F (.pow a v))
  | e => ezfew F e
theorem ezvals_s (H : ezH Q r F) : ∀ e : xjE, ezvals F e ≠ [] → ezden r e ∈ ezvals F e
  | .num z => fun _ => List.mem_singleton.mpr rfl
  | .var i => fun h => by
      unfold ezvals at h ⊢
      split at h
      · exact ezfew_s H h
      · rename_i n l e
        rcases H.1.1.2.1 i with h3 | h3
        · rw [h3] at e; cases e
        · rw [e] at h3
          exact ezcut_s H h3
  | .add a b => fun h => by
      unfold ezvals at h ⊢
      split at h
      · rename_i x l y m ea eb
        have p := ezvals_s H a (by rw [ea]; simp)
        have q := ezvals_s H b (by rw [eb]; simp)
        rw [ea] at p
        rw [eb] at q
        exact List.mem_flatMap.mpr ⟨_, p, List.mem_map.mpr ⟨_, q, rfl⟩⟩
      · exact absurd rfl h
  | .mul a b => fun h => by
      unfold ezvals at h ⊢
      split at h
      · rename_i z
        have : ezfew F b ≠ [] := fun e => by rw [e] at h; exact h rfl
        exact List.mem_map.mpr ⟨_, ezfew_s H this, rfl⟩
      · exact absurd rfl h
  | .pow a v => fun h => by
      unfold ezvals at h ⊢
      split at h
      · rename_i c z
        split at h
        · exact ezfew_s H h
        · rename_i x l e
          cases hb : (x :: l).all (fun n => xle 0 n && (xle 0 z && (Nat.blt n.toNat 512 && (Nat.blt z.toNat (ezL n.toNat) && !(ezSl n.toNat z.toNat).2.2.2.isEmpty)))) with
          | false => rw [hb] at h; exact ezfew_s H h
          | true =>
            have p := ezvals_s H c (by rw [e]; simp)
            rw [e] at p
            have q := List.all_eq_true.mp hb _ p
            simp only [Bool.and_eq_true, xle_iff] at q
            obtain ⟨q1, q2, q3, q4, q5⟩ := q
            have t := ((H.1.1.2.2 v).2 (ezden r c).toNat z.toNat (Nat.ble_eq.mp q3) (Nat.ble_eq.mp q4)).2.2
            rcases t with t | ⟨n, hn, t⟩
            · rw [t] at q5; cases q5
            · refine ezcut_s H ⟨n, List.mem_flatMap.mpr ⟨_, p, hn⟩, ?_⟩
              show r.2.1 v (ezden r c) z = _
              rw [← t, show (((ezden r c).toNat : Nat) : Int) = ezden r c by omega, show ((z.toNat : Nat) : Int) = z by omega]
      · exact ezfew_s H h
  | .neg a => fun h => ezfew_s H h
  | .sub a b => fun h => ezfew_s H h
  | .natCast _ => fun h => ezfew_s H h
  | .intCast _ => fun h => ezfew_s H h
/-- a cell that surely is one of which p holds -/
def ezcell (F : xF) (e : xjE) (p : Nat → Bool) : Bool := match ezvals F e with
  | [] => false
  | x :: l => (x :: l).all fun n => xle 0 n && (Nat.blt n.toNat 512 && p n.toNat)
theorem ezcell_s (H : ezH Q r F) {e : xjE} {p : Nat → Bool} (h : ezcell F e p = true) : 0 ≤ ezden r e ∧ (ezden r e).toNat < 512 ∧ p (ezden r e).toNat = true := by
  unfold ezcell at h
  split at h
  · cases h
  · rename_i x l ev
    have p1 := ezvals_s H e (by rw [ev]; simp)
    rw [ev] at p1
    have q := List.all_eq_true.mp h _ p1
    simp only [Bool.and_eq_true, xle_iff] at q
    exact ⟨q.1, Nat.ble_eq.mp q.2.1, q.2.2⟩
/-- two cells that surely are not one -/
def ezapart (F : xF) (a b : xjE) : Bool := match ezvals F a, ezvals F b with
  | x :: l, y :: m => (x :: l).all fun u => (y :: m).all fun v => !(decide (u = v))
  | _, _ => false
theorem ezapart_s (H : ezH Q r F) {a b : xjE} (h : ezapart F a b = true) : ezden r a ≠ ezden r b := by
  unfold ezapart at h
  split at h
  · rename_i x l y m ea eb
    have p := ezvals_s H a (by rw [ea]; simp)
    have q := ezvals_s H b (by rw [eb]; simp)
    rw [ea] at p
    rw [eb] at q
    have t := List.all_eq_true.mp (List.all_eq_true.mp h _ p) _ q
    intro e
    rw [decide_eq_true e] at t
    cases t
  · cases h
/-! a read below the layers -/
def eztb (b : Bool) (m : Nat) (j : xjE) (n : Nat) : Bool := match j with
  | .num z => bif b then Nat.testBit m (ezloc n z.toNat) else !(Nat.testBit m (ezloc n z.toNat))
  | _ => Nat.ble 14 (ezK n) && (bif b then Nat.testBit m (ezloc n 0) else !(Nat.testBit m (ezloc n 0)))
theorem eztb_s {b : Bool} {m : Nat} {j : xjE} {c : Int} (h : eztb b m j c.toNat = true) : Nat.testBit m (ezlc c (ezden r j)) = b := by
  have key : ∀ n : Nat, (bif b then Nat.testBit m n else !(Nat.testBit m n)) = true → Nat.testBit m n = b := by
    intro n h
    cases b with
    | true => exact h
    | false => exact xbnot h
  unfold eztb at h
  split at h
  · exact key _ h
  · rw [Bool.and_eq_true] at h
    have e : ezlc c (ezden r j) = ezloc c.toNat 0 := by
      show xg0 ezB c.toNat + (bif Nat.blt (ezK c.toNat) 14 then (ezden r j).toNat else 0) = xg0 ezB c.toNat + (bif Nat.blt (ezK c.toNat) 14 then 0 else 0)
      rw [ycblf (Nat.ble_eq.mp h.1)]
      rfl
    rw [e]
    exact key _ h.2
def ezrd (c j : xjE) : List ezLy → xF → (xF → xjE → Bool) → Bool
  | [], F, k => k F (.pow (.mul c j) 0)
  | (0, w, _) :: ws, F, k => bif xeq c w.1 && xeq j w.2.1 then k F w.2.2 else bif ezapart F c w.1 then ezrd c j ws F k else
    (eztest F .eq c w.1).all (fun q => (xtwo (eztest F .eq c w.1) && ezctra q.2) || (bif q.1 then
      (eztest q.2 .eq j w.2.1).all (fun p => (xtwo (eztest q.2 .eq j w.2.1) && ezctra p.2) || (bif p.1 then k p.2 w.2.2 else ezrd c j ws p.2 k))
      else ezrd c j ws q.2 k))
  | (v + 1, _, m) :: ws, F, k => bif ezcell F c (eztb true m j) then k F (.pow (.mul c j) v) else ezcell F c (eztb false m j) && ezrd c j ws F k
theorem ezrd_s {c j : xjE} : ∀ (ws : List ezLy) {F : xF} {k : xF → xjE → Bool}, ezH Q r F → ezrd c j ws F k = true → ∃ F2 e, ezH Q r F2 ∧ k F2 e = true ∧ ezden r e = ezhh r ws (ezden r c) (ezden r j) := by
  intro ws
  induction ws with
  | nil => intro F k H h; exact ⟨F, _, H, h, rfl⟩
  | cons w ws ih =>
    intro F k H h
    obtain ⟨t, w, m⟩ := w
    cases t with
    | succ v =>
      have h : (bif ezcell F c (eztb true m j) then k F (.pow (.mul c j) v) else ezcell F c (eztb false m j) && ezrd c j ws F k) = true := h
      have e0 : ezhh r ((v + 1, w, m) :: ws) (ezden r c) (ezden r j) = bif Nat.testBit m (ezlc (ezden r c) (ezden r j)) then r.2.1 v (ezden r c) (ezden r j) else ezhh r ws (ezden r c) (ezden r j) := rfl
      cases hb : ezcell F c (eztb true m j) with
      | true =>
        rw [hb] at h
        have := eztb_s (r := r) (ezcell_s H hb).2.2
        exact ⟨F, _, H, h, by rw [e0, this]; rfl⟩
      | false =>
        rw [hb] at h
        simp only [cond_false, Bool.and_eq_true] at h
        have := eztb_s (r := r) (ezcell_s H h.1).2.2
        obtain ⟨F2, e, a1, a2, a3⟩ := ih H h.2
        exact ⟨F2, e, a1, a2, by rw [e0, this]; exact a3⟩
    | zero =>
      have h : (bif xeq c w.1 && xeq j w.2.1 then k F w.2.2 else bif ezapart F c w.1 then ezrd c j ws F k else
        (eztest F .eq c w.1).all (fun q => (xtwo (eztest F .eq c w.1) && ezctra q.2) || (bif q.1 then
          (eztest q.2 .eq j w.2.1).all (fun p => (xtwo (eztest q.2 .eq j w.2.1) && ezctra p.2) || (bif p.1 then k p.2 w.2.2 else ezrd c j ws p.2 k))
          else ezrd c j ws q.2 k))) = true := h
      have e0 : ezhh r ((0, w, m) :: ws) = ezwr (ezhh r ws) (ezden r w.1) (ezden r w.2.1) (ezden r w.2.2) := rfl
      have off : ∀ {F2 : xF}, ezH Q r F2 → ezrd c j ws F2 k = true → ¬ (ezden r c = ezden r w.1 ∧ ezden r j = ezden r w.2.1) → ∃ F2 e, ezH Q r F2 ∧ k F2 e = true ∧ ezden r e = ezhh r ((0, w, m) :: ws) (ezden r c) (ezden r j) := by
        intro F2 H2 h3 hn
        obtain ⟨F3, e, a1, a2, a3⟩ := ih H2 h3
        exact ⟨F3, e, a1, a2, by rw [a3, e0, ezwr_ne hn]⟩
      have on : ∀ {F2 : xF}, ezH Q r F2 → k F2 w.2.2 = true → ezden r c = ezden r w.1 → ezden r j = ezden r w.2.1 → ∃ F2 e, ezH Q r F2 ∧ k F2 e = true ∧ ezden r e = ezhh r ((0, w, m) :: ws) (ezden r c) (ezden r j) := by
        intro F2 H2 h3 e1 e2
        exact ⟨F2, _, H2, h3, by rw [e0, e1, e2, ezwr_eq]⟩
      cases hb : xeq c w.1 && xeq j w.2.1 with
      | true =>
        rw [hb] at h
        rw [Bool.and_eq_true] at hb
        exact on H h (by rw [xeq_s hb.1]) (by rw [xeq_s hb.2])
      | false =>
        rw [hb] at h
        simp only [cond_false] at h
        cases ha : ezapart F c w.1 with
        | true =>
          rw [ha] at h
          exact off H h (fun z => ezapart_s H ha z.1)
        | false =>
          rw [ha] at h
          simp only [cond_false] at h
          obtain ⟨q, hq, hH, hc⟩ := eztest_s H .eq c w.1
          have h1 := List.all_eq_true.mp h q hq
          rw [ezctra_s hH, Bool.and_false, Bool.false_or] at h1
          have ec : yccd .eq (ezden r c) (ezden r w.1) = decide (ezden r c = ezden r w.1) := rfl
          rw [ec, decide_eq_true_iff] at hc
          cases hq1 : q.1 with
          | false =>
            rw [hq1] at h1
            exact off hH h1 (fun z => by rw [hc.mpr z.1] at hq1; cases hq1)
          | true =>
            rw [hq1] at h1
            simp only [cond_true] at h1
            obtain ⟨p, hp, pH, pc⟩ := eztest_s hH .eq j w.2.1
            have h4 := List.all_eq_true.mp h1 p hp
            rw [ezctra_s pH, Bool.and_false, Bool.false_or] at h4
            have ej : yccd .eq (ezden r j) (ezden r w.2.1) = decide (ezden r j = ezden r w.2.1) := rfl
            rw [ej, decide_eq_true_iff] at pc
            cases hp1 : p.1 with
            | false =>
              rw [hp1] at h4
              exact off pH h4 (fun z => by rw [pc.mpr z.2] at hp1; cases hp1)
            | true =>
              rw [hp1] at h4
              exact on pH h4 (hc.mp hq1) (pc.mp hp1)
/-- the least, the greatest of a number by cell -/
def ezmn (f : Nat → Int) : Int → List Int → Int
  | x, [] => f x.toNat
  | x, y :: l => xmn (f x.toNat) (ezmn f y l)
def ezmx (f : Nat → Int) : Int → List Int → Int
  | x, [] => f x.toNat
  | x, y :: l => xmx (f x.toNat) (ezmx f y l)
theorem ezmn_s {f : Nat → Int} : ∀ (l : List Int) (x : Int), ∀ y ∈ x :: l, ezmn f x l ≤ f y.toNat := by
  intro l
  induction l with
  | nil => intro x y hy; rw [List.mem_singleton.mp hy]; exact Int.le_refl _
  | cons z l ih =>
    intro x y hy
    have m := xmn_s (f x.toNat) (ezmn f z l)
    show xmn (f x.toNat) (ezmn f z l) ≤ _
    rcases List.mem_cons.mp hy with e | h
    · rw [e]; exact m.1
    · exact Int.le_trans m.2.1 (ih z y h)
theorem ezmx_s {f : Nat → Int} : ∀ (l : List Int) (x : Int), ∀ y ∈ x :: l, f y.toNat ≤ ezmx f x l := by
  intro l
  induction l with
  | nil => intro x y hy; rw [List.mem_singleton.mp hy]; exact Int.le_refl _
  | cons z l ih =>
    intro x y hy
    have m := xmx_s (f x.toNat) (ezmx f z l)
    show _ ≤ xmx (f x.toNat) (ezmx f z l)
    rcases List.mem_cons.mp hy with e | h
    · rw [e]; exact m.1
    · exact Int.le_trans (ih z y h) m.2.1
/-- an object's slot, or an array's at a place that surely lies within; the number by which its ranges are told -/
def ezsj (j : xjE) : Nat := match j with
  | .num z => z.toNat
  | _ => 0
def ezslot (F : xF) (c j : xjE) (p : Nat → Bool) : Bool := match j with
  | .num z => xle 0 z && ezcell F c (fun n => Nat.blt z.toNat (ezL n) && p n)
  | j => (match ezvals F c with
    | [] => false
    | x :: l => ezbd F j 0 (ezmn (fun n => (ezL n : Int)) x l - 1) && ezcell F c (fun n => Nat.beq (xg0 ezT n).2.2.1 1 && p n))
theorem ezslot_s (H : ezH Q r F) {c j : xjE} {p : Nat → Bool} (h : ezslot F c j p = true) : 0 ≤ ezden r c ∧ (ezden r c).toNat < 512 ∧ p (ezden r c).toNat = true ∧ 0 ≤ ezden r j ∧ (ezden r j).toNat < ezL (ezden r c).toNat ∧ ezSl (ezden r c).toNat (ezden r j).toNat = ezSl (ezden r c).toNat (ezsj j) := by
  unfold ezslot at h
  split at h
  · rename_i z
    rw [Bool.and_eq_true, xle_iff] at h
    obtain ⟨a1, a2, a3⟩ := ezcell_s H h.2
    rw [Bool.and_eq_true] at a3
    exact ⟨a1, a2, a3.2, h.1, Nat.ble_eq.mp a3.1, rfl⟩
  · split at h
    · cases h
    · rename_i x l ev
      rw [Bool.and_eq_true] at h
      obtain ⟨a1, a2, a3⟩ := ezcell_s H h.2
      rw [Bool.and_eq_true] at a3
      have b := ezbd_s H h.1
      have p1 := ezvals_s H c (by rw [ev]; simp)
      rw [ev] at p1
      have m := ezmn_s (f := fun n => (ezL n : Int)) l x _ p1
      have m : ezmn (fun n => (ezL n : Int)) x l ≤ (ezL (ezden r c).toNat : Int) := m
      refine ⟨a1, a2, a3.2, b.1, by omega, ?_⟩
      unfold ezSl ezSq
      rw [a3.1]
      rfl
/-- its range, as a fact of a read that reaches a version itself -/
def ezkn (c j : xjE) (F : xF) (e : xjE) (k : xF → xjE → Bool) : Bool := match e with
  | .pow (.mul c2 j2) v => bif xeq c2 c && xeq j2 j then (match ezvals F c with
    | x :: l => bif ezslot F c j (fun _ => true) then xfi (ezmn (fun n => (ezSl n (ezsj j)).2.1) x l) (fun lo => xfi (ezmx (fun n => (ezSl n (ezsj j)).2.2.1) x l) (fun hi =>
        bif xle lo (eziv F (.pow (.mul c2 j2) v)).1 && xle (eziv F (.pow (.mul c2 j2) v)).2 hi then k F (.pow (.mul c2 j2) v) else
        k ((.pow (.mul c2 j2) v, xmx lo (eziv F (.pow (.mul c2 j2) v)).1, xmn hi (eziv F (.pow (.mul c2 j2) v)).2) :: F) (.pow (.mul c2 j2) v))) else k F (.pow (.mul c2 j2) v)
    | [] => k F (.pow (.mul c2 j2) v)) else k F (.pow (.mul c2 j2) v)
  | e => k F e
theorem ezkn_s (H : ezH Q r F) {c j e : xjE} {k : xF → xjE → Bool} (h : ezkn c j F e k = true) : ∃ F2, ezH Q r F2 ∧ k F2 e = true := by
  unfold ezkn at h
  split at h
  · rename_i c2 j2 v
    cases hb : xeq c2 c && xeq j2 j with
    | false => rw [hb] at h; exact ⟨F, H, h⟩
    | true =>
      rw [hb] at h
      simp only [cond_true] at h
      rw [Bool.and_eq_true] at hb
      have e1 := xeq_s hb.1
      have e2 := xeq_s hb.2
      subst e1
      subst e2
      split at h
      · rename_i x l ev
        cases hs : ezslot F c2 j2 (fun _ => true) with
        | false => rw [hs] at h; exact ⟨F, H, h⟩
        | true =>
          rw [hs] at h
          simp only [cond_true] at h
          rw [xfi_s, xfi_s] at h
          cases hk : xle (ezmn (fun n => (ezSl n (ezsj j2)).2.1) x l) (eziv F (.pow (.mul c2 j2) v)).1 && xle (eziv F (.pow (.mul c2 j2) v)).2 (ezmx (fun n => (ezSl n (ezsj j2)).2.2.1) x l) with
          | true => rw [hk] at h; exact ⟨F, H, h⟩
          | false =>
            rw [hk] at h
            obtain ⟨a1, a2, -, a4, a5, a6⟩ := ezslot_s H hs
            have p1 := ezvals_s H c2 (by rw [ev]; simp)
            rw [ev] at p1
            have t := (H.1.1.2.2 v).2 (ezden r c2).toNat (ezden r j2).toNat a2 a5
            have ec : (((ezden r c2).toNat : Nat) : Int) = ezden r c2 := by omega
            have ej : (((ezden r j2).toNat : Nat) : Int) = ezden r j2 := by omega
            rw [ec, ej, a6] at t
            have m1 := ezmn_s (f := fun n => (ezSl n (ezsj j2)).2.1) l x _ p1
            have m2 := ezmx_s (f := fun n => (ezSl n (ezsj j2)).2.2.1) l x _ p1
            have iv := eziv_s H (.pow (.mul c2 j2) v)
            have n1 := xmx_s (ezmn (fun n => (ezSl n (ezsj j2)).2.1) x l) (eziv F (.pow (.mul c2 j2) v)).1
            have n2 := xmn_s (ezmx (fun n => (ezSl n (ezsj j2)).2.2.1) x l) (eziv F (.pow (.mul c2 j2) v)).2
            have ed : ezden r (.pow (.mul c2 j2) v) = r.2.1 v (ezden r c2) (ezden r j2) := rfl
            refine ⟨_, ezHc H ?_ ?_, h⟩
            · rcases n1.2.2 with e | e
              · rw [e, ed]; exact Int.le_trans m1 t.1
              · rw [e]; exact iv.1
            · rcases n2.2.2 with e | e
              · rw [e, ed]; exact Int.le_trans t.2.1 m2
              · rw [e]; exact iv.2
      · exact ⟨F, H, h⟩
  · exact ⟨F, H, h⟩
/-- read, with its range -/
def ezget (F : xF) (L : List ezLy) (c j : xjE) (k : xF → xjE → Bool) : Bool := ezrd c j L F (fun F2 e => ezkn c j F2 e (fun F3 e => xfe (ezcon F3 e) (fun e => k F3 e)))
theorem ezget_s (H : ezH Q r F) {L : List ezLy} {c j : xjE} {k : xF → xjE → Bool} (h : ezget F L c j k = true) : ∃ F2 e, ezH Q r F2 ∧ k F2 e = true ∧ ezden r e = ezhh r L (ezden r c) (ezden r j) := by
  obtain ⟨F2, e, a1, a2, a3⟩ := ezrd_s L H h
  obtain ⟨F3, b1, b2⟩ := ezkn_s a1 a2
  rw [xfe_s] at b2
  exact ⟨F3, _, b1, b2, by rw [ezcon_s b1]; exact a3⟩
end EZ3
