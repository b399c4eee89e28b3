noncomputable section EZA
/-! E2: contracts; a call by contract -/
variable {Q : ezR → Prop} {T : ycT} {r s : ezR} {F : xF}
/-- locals at the start, what is to hold, the answer (sort, tag, number), the cells that may change, what holds behind (by cases: cells made, facts; version 1 is the heap behind), exceptions -/
abbrev ezCon := List (Nat × xV) × xF × (Nat × Nat × Nat) × Nat × List (Nat × xF) × List Nat
def ezPost (T : ycT) (c : ezCon) (r : ezR) (u : ycL) : Prop := ∃ (v : Int) (H : Int → Int → Int), ezrok (ezfr r c.2.2.1.2.2 v 1 H) ∧ (∀ a j : Int, Nat.testBit c.2.2.2.1 (ezlc a j) = false → H a j = r.2.1 0 a j) ∧
  ((∃ q ∈ c.2.2.2.2.1, u = (c.2.2.1.1, (bif Nat.beq c.2.2.1.1 0 then (3, 0) else (c.2.2.1.2.1, v)), q.1, 6 * q.1, ezhp1 T H (r.2.2 && Nat.beq q.1 0)) ∧ ∀ f ∈ q.2, f.2.1 ≤ ezden (ezfr r c.2.2.1.2.2 v 1 H) f.1 ∧ ezden (ezfr r c.2.2.1.2.2 v 1 H) f.1 ≤ f.2.2) ∨
    ∃ e ∈ c.2.2.2.2.2, u = (e + 2, (3, 0), 1, 6, ezhp1 T H false))
def ezMet (T : ycT) (cm : Nat) (c : ezCon) : Prop := ∀ r : ezR, ezrok r → ezol T r → (∀ q ∈ c.2.1, q.2.1 ≤ ezden r q.1 ∧ ezden r q.1 ≤ q.2.2) → ∃ k u, ycrun T k cm (0, ezdl r c.1, []) (ezhp1 T (r.2.1 0) r.2.2) = some u ∧ ezPost T c r u
/-- a value within what its number may be -/
def ezdom (F : xF) (m : Nat) (e : xjE) : Bool := ezbd F e (xvr m).1 (xvr m).2 && (match ezDv m with
  | [] => true
  | n :: l => (match ezvals F e with
    | [] => false
    | u :: w => (u :: w).all fun z => xle 0 z && (n :: l).any fun k => Nat.beq k z.toNat))
theorem ezdom_s (H : ezH Q r F) {m : Nat} {e : xjE} (h : ezdom F m e = true) : ((xvr m).1 ≤ ezden r e ∧ ezden r e ≤ (xvr m).2) ∧ (ezDv m = [] ∨ ∃ n ∈ ezDv m, ezden r e = ((n : Nat) : Int)) := by
  unfold ezdom at h
  rw [Bool.and_eq_true] at h
  refine ⟨ezbd_s H h.1, ?_⟩
  have h2 := h.2
  split at h2
  · rename_i e0
    exact Or.inl e0
  · rename_i n l e0
    refine Or.inr ?_
    split at h2
    · cases h2
    · rename_i u w ev
      have p := ezvals_s H e (by rw [ev]; simp)
      rw [ev] at p
      have q := List.all_eq_true.mp h2 _ p
      rw [Bool.and_eq_true, xle_iff] at q
      obtain ⟨k, hk, q2⟩ := List.any_eq_true.mp q.2
      have q2 := Nat.eq_of_beq_eq_true q2
      exact ⟨k, by rw [e0]; exact hk, by omega⟩
/-- what stands for a pattern's locals -/
def ezpar (lo hi : Nat) : List (Nat × xV) → List (Nat × xV) → xF → Option (List (Nat × xjE))
  | [], [], _ => some []
  | (i, (t, .var m)) :: as, (i2, (t2, e)) :: ls, F => bif (Nat.beq i i2 && Nat.beq t t2) && ((Nat.ble lo m && Nat.blt m hi) && (!(Nat.beq (m % 64) 0) && ezdom F m e)) then (match ezpar lo hi as ls F with
    | some l => some ((m, e) :: l)
    | none => none) else none
  | (i, (t, .num z)) :: as, (i2, (t2, e)) :: ls, F => bif (Nat.beq i i2 && Nat.beq t t2) && ezbd F e z z then ezpar lo hi as ls F else none
  | _, _, _ => none
/-- numbers anew by a list -/
def ezrs (r : ezR) (l : List (Nat × xjE)) (G0 G1 : Int → Int → Int) (b : Bool) : ezR := (fun i => match ezlo l i with | some e => ezden r e | none => r.1 i, fun w => if w = 0 then G0 else if w = 1 then G1 else r.2.1 w, b)
theorem ezlo_m {i : Nat} {e : xjE} : ∀ {l : List (Nat × xjE)}, ezlo l i = some e → (i, e) ∈ l := by
  intro l
  induction l with
  | nil => intro h; cases h
  | cons q l ih =>
    intro h
    have h : (bif Nat.beq q.1 i then some q.2 else ezlo l i) = some e := h
    cases hb : Nat.beq q.1 i with
    | true =>
      rw [hb] at h
      have e1 := Nat.eq_of_beq_eq_true hb
      have e2 : q.2 = e := Option.some.inj h
      rw [← e1, ← e2]
      exact List.mem_cons_self
    | false =>
      rw [hb] at h
      exact List.mem_cons_of_mem _ (ih h)
/-- all that stands in such a list is within what its number may be; no number of the script's -/
def ezlok (r : ezR) (lo hi : Nat) (l : List (Nat × xjE)) : Prop := ∀ q ∈ l, ((xvr q.1).1 ≤ ezden r q.2 ∧ ezden r q.2 ≤ (xvr q.1).2) ∧ (ezDv q.1 = [] ∨ ∃ n ∈ ezDv q.1, ezden r q.2 = ((n : Nat) : Int)) ∧ q.1 % 64 ≠ 0 ∧ lo ≤ q.1 ∧ q.1 < hi
theorem ezpar_s (H : ezH Q r F) {lo hi : Nat} : ∀ (as ls : List (Nat × xV)) (l : List (Nat × xjE)), ezpar lo hi as ls F = some l → ezlok r lo hi l := by
  intro as
  induction as with
  | nil =>
    intro ls l h
    cases ls with
    | nil =>
      cases Option.some.inj h
      intro q hq; cases hq
    | cons q ls => cases h
  | cons a as ih =>
    intro ls l h
    obtain ⟨i, t, p⟩ := a
    cases ls with
    | nil => cases p <;> cases h
    | cons q ls =>
      obtain ⟨i2, t2, e⟩ := q
      cases p with
      | var m =>
        unfold ezpar at h
        revert h
        cases hb : (Nat.beq i i2 && Nat.beq t t2) && ((Nat.ble lo m && Nat.blt m hi) && (!(Nat.beq (m % 64) 0) && ezdom F m e)) with
        | false => intro h; cases h
        | true =>
          simp only [cond_true]
          intro h
          split at h
          · rename_i l2 e2
            cases Option.some.inj h
            have := ih ls l2 e2
            simp only [Bool.and_eq_true] at hb
            have d := ezdom_s H hb.2.2.2
            intro q hq
            rcases List.mem_cons.mp hq with hq | hq
            · rw [hq]
              exact ⟨d.1, d.2, Nat.ne_of_beq_eq_false (xbnot hb.2.2.1), Nat.ble_eq.mp hb.2.1.1, Nat.ble_eq.mp hb.2.1.2⟩
            · exact this q hq
          · cases h
      | num z =>
        unfold ezpar at h
        revert h
        cases hb : (Nat.beq i i2 && Nat.beq t t2) && ezbd F e z z with
        | false => intro h; cases h
        | true => intro h; exact ih ls l h
      | natCast _ => cases h
      | intCast _ => cases h
      | neg _ => cases h
      | add _ _ => cases h
      | sub _ _ => cases h
      | mul _ _ => cases h
      | pow _ _ => cases h
/-- no number twice: the last found is the one that was put -/
def eznd : List (Nat × xV) → Bool
  | [] => true
  | (_, (_, .var m)) :: l => (l.all fun q => match q.2.2 with | .var k => !(Nat.beq k m) | _ => true) && eznd l
  | _ :: l => eznd l
theorem ezpar_n (H : ezH Q r F) {lo hi : Nat} {s : ezR} : ∀ (as ls : List (Nat × xV)) (l : List (Nat × xjE)), ezpar lo hi as ls F = some l → (∀ q ∈ l, s.1 q.1 = ezden r q.2) → ezdl s as = ezdl r ls := by
  intro as
  induction as with
  | nil =>
    intro ls l h _
    cases ls with
    | nil => rfl
    | cons q ls => cases h
  | cons a as ih =>
    intro ls l h hs
    obtain ⟨i, t, p⟩ := a
    cases ls with
    | nil => cases p <;> cases h
    | cons q ls =>
      obtain ⟨i2, t2, e⟩ := q
      cases p with
      | var m =>
        unfold ezpar at h
        revert h
        cases hb : (Nat.beq i i2 && Nat.beq t t2) && ((Nat.ble lo m && Nat.blt m hi) && (!(Nat.beq (m % 64) 0) && ezdom F m e)) with
        | false => intro h; cases h
        | true =>
          simp only [cond_true]
          intro h
          split at h
          · rename_i l2 e2
            cases Option.some.inj h
            simp only [Bool.and_eq_true] at hb
            have h1 := ih ls l2 e2 (fun q hq => hs q (List.mem_cons_of_mem _ hq))
            have h2 := hs (m, e) List.mem_cons_self
            show (i, t, s.1 m) :: ezdl s as = (i2, t2, ezden r e) :: ezdl r ls
            rw [h1, Nat.eq_of_beq_eq_true hb.1.1, Nat.eq_of_beq_eq_true hb.1.2, ← h2]
          · cases h
      | num z =>
        unfold ezpar at h
        revert h
        cases hb : (Nat.beq i i2 && Nat.beq t t2) && ezbd F e z z with
        | false => intro h; cases h
        | true =>
          intro h
          rw [Bool.and_eq_true, Bool.and_eq_true] at hb
          have h1 := ih ls l h hs
          have b := ezbd_s H hb.2
          show (i, t, z) :: ezdl s as = (i2, t2, ezden r e) :: ezdl r ls
          rw [h1, Nat.eq_of_beq_eq_true hb.1.1, Nat.eq_of_beq_eq_true hb.1.2, show ezden r e = z by omega]
      | natCast _ => cases h
      | intCast _ => cases h
      | neg _ => cases h
      | add _ _ => cases h
      | sub _ _ => cases h
      | mul _ _ => cases h
      | pow _ _ => cases h
/-- of a list without a number twice each entry is the one found -/
def ezu : List (Nat × xjE) → Bool
  | [] => true
  | q :: l => (l.all fun z => !(Nat.beq q.1 z.1)) && ezu l
theorem ezu_s : ∀ {l : List (Nat × xjE)}, ezu l = true → ∀ q ∈ l, ezlo l q.1 = some q.2 := by
  intro l
  induction l with
  | nil => intro _ q hq; cases hq
  | cons z l ih =>
    intro h q hq
    have h : ((l.all fun y => !(Nat.beq z.1 y.1)) && ezu l) = true := h
    rw [Bool.and_eq_true] at h
    show (bif Nat.beq z.1 q.1 then some z.2 else ezlo l q.1) = some q.2
    rcases List.mem_cons.mp hq with e | hq
    · rw [e, Nat.beq_refl]; rfl
    · have := xbnot (List.all_eq_true.mp h.1 q hq)
      rw [this]
      exact ih h.2 q hq
theorem xvr_m {i j : Nat} (h : i % 64 = j % 64) : xvr i = xvr j := by
  unfold xvr
  rw [h, show i % 2 = j % 2 by omega]
theorem ezDv_m {i j : Nat} (h : i % 64 = j % 64) : ezDv i = ezDv j := by
  unfold ezDv
  rw [h]
theorem ezrs_ok {lo hi : Nat} {l : List (Nat × xjE)} {G0 G1 : Int → Int → Int} {b : Bool} (hr : ezrok r) (hl : ezlok r lo hi l) (h0 : ezHT G0) (h1 : ezHT G1) : ezrok (ezrs r l G0 G1 b) := by
  refine ⟨fun i => ?_, fun i => ?_, fun w => ?_⟩
  · show _ ≤ (match ezlo l i with | some e => ezden r e | none => r.1 i) ∧ (match ezlo l i with | some e => ezden r e | none => r.1 i) ≤ _
    cases h : ezlo l i with
    | none => exact hr.1 i
    | some e => exact (hl (i, e) (ezlo_m h)).1
  · show _ ∨ ∃ n ∈ _, (match ezlo l i with | some e => ezden r e | none => r.1 i) = _
    cases h : ezlo l i with
    | none => exact hr.2.1 i
    | some e => exact (hl (i, e) (ezlo_m h)).2.1
  · show ezHT (if w = 0 then G0 else if w = 1 then G1 else r.2.1 w)
    split
    · exact h0
    · split
      · exact h1
      · exact hr.2.2 w
theorem ezlo_s0 {lo hi : Nat} {l : List (Nat × xjE)} (hl : ezlok r lo hi l) {i : Nat} (hi : i % 64 = 0) : ezlo l i = none := by
  cases h : ezlo l i with
  | none => rfl
  | some e => exact absurd hi (hl (i, e) (ezlo_m h)).2.2.1
theorem ezol_c {T : ycT} {r s : ezR} (h : ∀ i, i % 64 = 0 → s.1 i = r.1 i) (ho : ezol T r) : ezol T s :=
  ⟨ho.1, by rw [h 0 rfl]; exact ho.2.1, fun j hj => by rw [h (64 * j + 64) (by omega)]; exact ho.2.2 j hj⟩
/-- a call by contract -/
def ezcc (T : ycT) (E : ezEn_) (k : ezCo_) (c : ezCon) (lv : List (Nat × xV)) (g : ezHp) (S : List xFr) (F : xF) : Bool := match S with
  | [] => false
  | f :: S2 => (match ezpar 1 4096 c.1 lv F with
    | none => false
    | some l => (ezu l && (ezlh F g.1 && (Nat.ble 2 g.2.1 && (Nat.blt c.2.2.1.2.2 4096 && !(Nat.beq (c.2.2.1.2.2 % 64) 0))))) && ezchk l g.1 g.1 c.2.1 F (fun F =>
        xfn (8192 + 64 * g.2.1 + c.2.2.1.2.2 % 64) (fun N => xfn g.2.1 (fun n => xfn (n + 1) (fun n1 =>
          ((ezsF (8192 + 64 * n) n F && (ezsY (8192 + 64 * n) n g.1 && (ezsW (8192 + 64 * n) n (f :: S2) && l.all fun q => ezsco (8192 + 64 * n) n q.2))) &&
          c.2.2.2.2.2.all (fun e => ezthr T E k e F (f :: S2) ((bif Nat.beq c.2.2.2.1 0 then g.1 else (n1, (.num 0, .num 0, .num 0), c.2.2.2.1) :: g.1), n1, false) 1 6)) &&
          c.2.2.2.2.1.all (fun q => ezasm ((c.2.2.1.2.2, .var N) :: l) g.1 (bif Nat.beq c.2.2.2.1 0 then g.1 else (n1, (.num 0, .num 0, .num 0), c.2.2.2.1) :: g.1) q.2 F (fun F => ezctra F ||
            ezend E k c.2.2.1.1 (bif Nat.beq c.2.2.1.1 0 then (3, .num 0) else (c.2.2.1.2.1, .var N)) ((bif Nat.beq c.2.2.2.1 0 then g.1 else (n1, (.num 0, .num 0, .num 0), c.2.2.2.1) :: g.1), n1, (g.2.2 && Nat.beq q.1 0)) (f :: S2) q.1 (6 * q.1) F)))))))
end EZA
