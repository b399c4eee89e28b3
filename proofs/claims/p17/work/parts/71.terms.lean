section EZ1
/-! E2: terms over numbers and heap versions -/
/-- numbers, heap versions, the flag -/
abbrev ezR := (Nat → Int) × (Nat → Int → Int → Int) × Bool
/-! ghosts: sums over a row, of what a body makes of each place -/
def ezcd (c : Nat) : ClassFile.Cond := match c with | 0 => .eq | 1 => .ne | 2 => .lt | 3 => .ge | 4 => .gt | _ => .le
/-- a body's leaf: its numbers are the place, the slot, the other row's slot, the ghost's own number -/
def ezlf (j x y p : Int) : xjE → Int
  | .num k => k
  | .natCast _ => 0
  | .intCast _ => 0
  | .var i => (match i with | 0 => j | 1 => x | 2 => y | _ => p)
  | .neg _ => 0
  | .add a b => ezlf j x y p a + ezlf j x y p b
  | .sub a b => ezlf j x y p a - ezlf j x y p b
  | .mul a b => ezlf j x y p a * ezlf j x y p b
  | .pow a k => (match a with
    | .add b c => xop k (ezlf j x y p b) (ezlf j x y p c)
    | _ => 0)
def ezcl (v : Int) : Int := bif xle 0 v && xle v 4611686018427387904 then v else 0
def ezbv (j x y p : Int) : xjE → Int
  | .num k => ezcl k
  | .natCast _ => 0
  | .intCast _ => 0
  | .var i => ezcl (ezlf j x y p (.var i))
  | .neg _ => 0
  | .add a b => ezcl (ezlf j x y p (.add a b))
  | .sub a b => ezcl (ezlf j x y p (.sub a b))
  | .mul a b => ezcl (ezlf j x y p (.mul a b))
  | .pow a c => (match a with
    | .mul q w => (match q with
      | .sub a b => (match w with
        | .mul t e => bif yccd (ezcd c) (ezlf j x y p a) (ezlf j x y p b) then ezbv j x y p t else ezbv j x y p e
        | _ => 0)
      | _ => 0)
    | .add a b => ezcl (ezlf j x y p (.pow (.add a b) c))
    | _ => 0)
theorem ezcl_r (v : Int) : 0 ≤ ezcl v ∧ ezcl v ≤ 4611686018427387904 := by
  unfold ezcl
  cases h : xle 0 v && xle v 4611686018427387904 with
  | true =>
    rw [Bool.and_eq_true, xle_iff, xle_iff] at h
    exact h
  | false =>
    show (0 : Int) ≤ 0 ∧ (0 : Int) ≤ 4611686018427387904
    decide
theorem ezbv_r (j x y p : Int) : ∀ b : xjE, 0 ≤ ezbv j x y p b ∧ ezbv j x y p b ≤ 4611686018427387904
  | .num _ => ezcl_r _
  | .natCast _ => ⟨by show (0 : Int) ≤ 0; decide, by show (0 : Int) ≤ _; decide⟩
  | .intCast _ => ⟨by show (0 : Int) ≤ 0; decide, by show (0 : Int) ≤ _; decide⟩
  | .var _ => ezcl_r _
  | .neg _ => ⟨by show (0 : Int) ≤ 0; decide, by show (0 : Int) ≤ _; decide⟩
  | .add _ _ => ezcl_r _
  | .sub _ _ => ezcl_r _
  | .mul _ _ => ezcl_r _
  | .pow (.mul (.sub a b) (.mul t e)) c => by
      show 0 ≤ (bif yccd (ezcd c) (ezlf j x y p a) (ezlf j x y p b) then ezbv j x y p t else ezbv j x y p e) ∧ (bif yccd (ezcd c) (ezlf j x y p a) (ezlf j x y p b) then ezbv j x y p t else ezbv j x y p e) ≤ _
      cases yccd (ezcd c) (ezlf j x y p a) (ezlf j x y p b) with
      | true => exact ezbv_r j x y p t
      | false => exact ezbv_r j x y p e
  | .pow (.add _ _) _ => ezcl_r _
  | .pow (.num _) _ => ⟨by show (0 : Int) ≤ 0; decide, by show (0 : Int) ≤ _; decide⟩
  | .pow (.natCast _) _ => ⟨by show (0 : Int) ≤ 0; decide, by show (0 : Int) ≤ _; decide⟩
  | .pow (.intCast _) _ => ⟨by show (0 : Int) ≤ 0; decide, by show (0 : Int) ≤ _; decide⟩
  | .pow (.var _) _ => ⟨by show (0 : Int) ≤ 0; decide, by show (0 : Int) ≤ _; decide⟩
  | .pow (.neg _) _ => ⟨by show (0 : Int) ≤ 0; decide, by show (0 : Int) ≤ _; decide⟩
  | .pow (.sub _ _) _ => ⟨by show (0 : Int) ≤ 0; decide, by show (0 : Int) ≤ _; decide⟩
  | .pow (.pow _ _) _ => ⟨by show (0 : Int) ≤ 0; decide, by show (0 : Int) ≤ _; decide⟩
  | .pow (.mul (.num _) _) _ => ⟨by show (0 : Int) ≤ 0; decide, by show (0 : Int) ≤ _; decide⟩
  | .pow (.mul (.natCast _) _) _ => ⟨by show (0 : Int) ≤ 0; decide, by show (0 : Int) ≤ _; decide⟩
  | .pow (.mul (.intCast _) _) _ => ⟨by show (0 : Int) ≤ 0; decide, by show (0 : Int) ≤ _; decide⟩
  | .pow (.mul (.var _) _) _ => ⟨by show (0 : Int) ≤ 0; decide, by show (0 : Int) ≤ _; decide⟩
  | .pow (.mul (.neg _) _) _ => ⟨by show (0 : Int) ≤ 0; decide, by show (0 : Int) ≤ _; decide⟩
  | .pow (.mul (.add _ _) _) _ => ⟨by show (0 : Int) ≤ 0; decide, by show (0 : Int) ≤ _; decide⟩
  | .pow (.mul (.mul _ _) _) _ => ⟨by show (0 : Int) ≤ 0; decide, by show (0 : Int) ≤ _; decide⟩
  | .pow (.mul (.pow _ _) _) _ => ⟨by show (0 : Int) ≤ 0; decide, by show (0 : Int) ≤ _; decide⟩
  | .pow (.mul (.sub _ _) (.num _)) _ => ⟨by show (0 : Int) ≤ 0; decide, by show (0 : Int) ≤ _; decide⟩
  | .pow (.mul (.sub _ _) (.natCast _)) _ => ⟨by show (0 : Int) ≤ 0; decide, by show (0 : Int) ≤ _; decide⟩
  | .pow (.mul (.sub _ _) (.intCast _)) _ => ⟨by show (0 : Int) ≤ 0; decide, by show (0 : Int) ≤ _; decide⟩
  | .pow (.mul (.sub _ _) (.var _)) _ => ⟨by show (0 : Int) ≤ 0; decide, by show (0 : Int) ≤ _; decide⟩
  | .pow (.mul (.sub _ _) (.neg _)) _ => ⟨by show (0 : Int) ≤ 0; decide, by show (0 : Int) ≤ _; decide⟩
  | .pow (.mul (.sub _ _) (.add _ _)) _ => ⟨by show (0 : Int) ≤ 0; decide, by show (0 : Int) ≤ _; decide⟩
  | .pow (.mul (.sub _ _) (.sub _ _)) _ => ⟨by show (0 : Int) ≤ 0; decide, by show (0 : Int) ≤ _; decide⟩
  | .pow (.mul (.sub _ _) (.pow _ _)) _ => ⟨by show (0 : Int) ≤ 0; decide, by show (0 : Int) ≤ _; decide⟩
def ezgs (b : xjE) (H : Int → Int → Int) (c d p : Int) : Nat → Int
  | 0 => 0
  | n + 1 => ezgs b H c d p n + ezbv (n : Int) (H c n) (H d n) p b
def ezgN (k : Int) : Nat := bif Nat.ble k.toNat 65536 then k.toNat else 65536
def ezgh (z : Int) (H : Int → Int → Int) (c k p d : Int) : Int := ezgs (ezGB z) H c d p (ezgN k)
theorem ezgs_r (b : xjE) (H : Int → Int → Int) (c d p : Int) : ∀ n : Nat, 0 ≤ ezgs b H c d p n ∧ ezgs b H c d p n ≤ 4611686018427387904 * (n : Int) := by
  intro n
  induction n with
  | zero => exact ⟨Int.le_refl _, Int.le_refl _⟩
  | succ n ih =>
    have q := ezbv_r (n : Int) (H c n) (H d n) p b
    show 0 ≤ ezgs b H c d p n + ezbv (n : Int) (H c n) (H d n) p b ∧ ezgs b H c d p n + ezbv (n : Int) (H c n) (H d n) p b ≤ _
    omega
theorem ezgN_le (k : Int) : ezgN k ≤ 65536 := by
  unfold ezgN
  cases h : Nat.ble k.toNat 65536 with
  | true => exact Nat.ble_eq.mp h
  | false => exact Nat.le_refl _
theorem ezgh_r (z : Int) (H : Int → Int → Int) (c k p d : Int) : 0 ≤ ezgh z H c k p d ∧ ezgh z H c k p d ≤ 302231454903657293676544 := by
  have q := ezgs_r (ezGB z) H c d p (ezgN k)
  have n := ezgN_le k
  refine ⟨q.1, Int.le_trans q.2 ?_⟩
  omega
/-- what a term tells -/
def ezden (r : ezR) : xjE → Int
  | .num k => k
  | .natCast _ => 0
  | .intCast _ => 0
  | .var i => r.1 i
  | .neg a => - ezden r a
  | .add a b => ezden r a + ezden r b
  | .sub a b => ezden r a - ezden r b
  | .mul a b => ezden r a * ezden r b
  | .pow a k => (match a with
    | .add b c => xop k (ezden r b) (ezden r c)
    | .neg b => xop1 k (ezden r b)
    | .sub b c => (match b with
      | .num z => r.1 (z.toNat + 64 * (ezden r c).toNat)
      | .natCast z => ((ezTb z)[(ezden r c).toNat]?).getD 0
      | .intCast z => (match c with
        | .mul a q => (match q with
          | .mul k2 q2 => (match q2 with
            | .mul p d => ezgh z (r.2.1 k) (ezden r a) (ezden r k2) (ezden r p) (ezden r d)
            | _ => 0)
          | _ => 0)
        | _ => 0)
      | _ => 0)
    | .mul c j => r.2.1 k (ezden r c) (ezden r j)
    | _ => 0)
/-- a heap that keeps its ranges -/
def ezHT (H : Int → Int → Int) : Prop := (∀ a j : Int, -9223372036854775808 ≤ H a j ∧ H a j ≤ 9223372036854775807) ∧ ∀ a j : Nat, a < 512 → j < ezL a → (ezSl a j).2.1 ≤ H a j ∧ H a j ≤ (ezSl a j).2.2.1 ∧ ((ezSl a j).2.2.2 = [] ∨ ∃ n ∈ (ezSl a j).2.2.2, H a j = ((n : Nat) : Int))
def ezrok (r : ezR) : Prop := (∀ i, (xvr i).1 ≤ r.1 i ∧ r.1 i ≤ (xvr i).2) ∧ (∀ i, ezDv i = [] ∨ ∃ n ∈ ezDv i, r.1 i = ((n : Nat) : Int)) ∧ ∀ v, ezHT (r.2.1 v)
def ezH (Q : ezR → Prop) (r : ezR) (F : xF) : Prop := (ezrok r ∧ Q r) ∧ ∀ q ∈ F, q.2.1 ≤ ezden r q.1 ∧ ezden r q.1 ≤ q.2.2
variable {Q : ezR → Prop}
theorem ezlk_s {r : ezR} {e : xjE} {d : Int × Int} (hd : d.1 ≤ ezden r e ∧ ezden r e ≤ d.2) : ∀ {F : xF}, (∀ q ∈ F, q.2.1 ≤ ezden r q.1 ∧ ezden r q.1 ≤ q.2.2) → (xlk F e d).1 ≤ ezden r e ∧ ezden r e ≤ (xlk F e d).2 := by
  intro F
  induction F with
  | nil => intro _; exact hd
  | cons q F ih =>
    intro h
    show (bif xeq q.1 e then q.2 else xlk F e d).1 ≤ _ ∧ _ ≤ (bif xeq q.1 e then q.2 else xlk F e d).2
    cases hq : xeq q.1 e with
    | true =>
      have he := xeq_s hq
      subst he
      exact h q List.mem_cons_self
    | false => exact ih (fun q hq => h q (List.mem_cons_of_mem _ hq))
/-- what is known of a term: its least and its greatest -/
def eziv (F : xF) : xjE → Int × Int
  | .num k => (k, k)
  | .natCast _ => (0, 0)
  | .intCast _ => (0, 0)
  | .var i => xlk F (.var i) (xvr i)
  | .neg a => xlk F (.neg a) (- (eziv F a).2, - (eziv F a).1)
  | .add a b => xlk F (.add a b) ((eziv F a).1 + (eziv F b).1, (eziv F a).2 + (eziv F b).2)
  | .sub a b => xlk F (.sub a b) ((eziv F a).1 - (eziv F b).2, (eziv F a).2 - (eziv F b).1)
  | .mul a b => xlk F (.mul a b) (xmuli (eziv F a) (eziv F b))
  | .pow a k => (match a with
    | .add b c => xlk F (.pow (.add b c) k) (ezivop k (eziv F b) (eziv F c))
    | .neg b => xlk F (.pow (.neg b) k) (match k with | 0 => xdef32 | 1 => xdef32 | _ => (-2147483648, xmx 2147483647 (eziv F b).2))
    | .sub b c => (match b with
      | .num z => xlk F (.pow (.sub (.num z) c) k) (xvr z.toNat)
      | .natCast z => xlk F (.pow (.sub (.natCast z) c) k) (ezTr z)
      | .intCast z => xlk F (.pow (.sub (.intCast z) c) k) (0, 302231454903657293676544)
      | _ => (0, 0))
    | .mul c j => xlk F (.pow (.mul c j) k) xdef64
    | _ => (0, 0))
theorem ezghd {r : ezR} {z : Int} {k : Nat} : ∀ c : xjE, 0 ≤ ezden r (.pow (.sub (.intCast z) c) k) ∧ ezden r (.pow (.sub (.intCast z) c) k) ≤ 302231454903657293676544
  | .mul _ (.mul _ (.mul _ _)) => ezgh_r _ _ _ _ _ _
  | .num _ => ⟨by show (0 : Int) ≤ 0; decide, by show (0 : Int) ≤ _; decide⟩
  | .natCast _ => ⟨by show (0 : Int) ≤ 0; decide, by show (0 : Int) ≤ _; decide⟩
  | .intCast _ => ⟨by show (0 : Int) ≤ 0; decide, by show (0 : Int) ≤ _; decide⟩
  | .var _ => ⟨by show (0 : Int) ≤ 0; decide, by show (0 : Int) ≤ _; decide⟩
  | .neg _ => ⟨by show (0 : Int) ≤ 0; decide, by show (0 : Int) ≤ _; decide⟩
  | .add _ _ => ⟨by show (0 : Int) ≤ 0; decide, by show (0 : Int) ≤ _; decide⟩
  | .sub _ _ => ⟨by show (0 : Int) ≤ 0; decide, by show (0 : Int) ≤ _; decide⟩
  | .pow _ _ => ⟨by show (0 : Int) ≤ 0; decide, by show (0 : Int) ≤ _; decide⟩
  | .mul _ (.num _) => ⟨by show (0 : Int) ≤ 0; decide, by show (0 : Int) ≤ _; decide⟩
  | .mul _ (.natCast _) => ⟨by show (0 : Int) ≤ 0; decide, by show (0 : Int) ≤ _; decide⟩
  | .mul _ (.intCast _) => ⟨by show (0 : Int) ≤ 0; decide, by show (0 : Int) ≤ _; decide⟩
  | .mul _ (.var _) => ⟨by show (0 : Int) ≤ 0; decide, by show (0 : Int) ≤ _; decide⟩
  | .mul _ (.neg _) => ⟨by show (0 : Int) ≤ 0; decide, by show (0 : Int) ≤ _; decide⟩
  | .mul _ (.add _ _) => ⟨by show (0 : Int) ≤ 0; decide, by show (0 : Int) ≤ _; decide⟩
  | .mul _ (.sub _ _) => ⟨by show (0 : Int) ≤ 0; decide, by show (0 : Int) ≤ _; decide⟩
  | .mul _ (.pow _ _) => ⟨by show (0 : Int) ≤ 0; decide, by show (0 : Int) ≤ _; decide⟩
  | .mul _ (.mul _ (.num _)) => ⟨by show (0 : Int) ≤ 0; decide, by show (0 : Int) ≤ _; decide⟩
  | .mul _ (.mul _ (.natCast _)) => ⟨by show (0 : Int) ≤ 0; decide, by show (0 : Int) ≤ _; decide⟩
  | .mul _ (.mul _ (.intCast _)) => ⟨by show (0 : Int) ≤ 0; decide, by show (0 : Int) ≤ _; decide⟩
  | .mul _ (.mul _ (.var _)) => ⟨by show (0 : Int) ≤ 0; decide, by show (0 : Int) ≤ _; decide⟩
  | .mul _ (.mul _ (.neg _)) => ⟨by show (0 : Int) ≤ 0; decide, by show (0 : Int) ≤ _; decide⟩
  | .mul _ (.mul _ (.add _ _)) => ⟨by show (0 : Int) ≤ 0; decide, by show (0 : Int) ≤ _; decide⟩
  | .mul _ (.mul _ (.sub _ _)) => ⟨by show (0 : Int) ≤ 0; decide, by show (0 : Int) ≤ _; decide⟩
  | .mul _ (.mul _ (.pow _ _)) => ⟨by show (0 : Int) ≤ 0; decide, by show (0 : Int) ≤ _; decide⟩
theorem eziv_s {r : ezR} {F : xF} (h : ezH Q r F) : ∀ e : xjE, (eziv F e).1 ≤ ezden r e ∧ ezden r e ≤ (eziv F e).2
  | .num k => ⟨Int.le_refl _, Int.le_refl _⟩
  | .natCast _ => ⟨Int.le_refl _, Int.le_refl _⟩
  | .intCast _ => ⟨Int.le_refl _, Int.le_refl _⟩
  | .var i => ezlk_s (h.1.1.1 i) h.2
  | .neg a => ezlk_s (by
      have := eziv_s h a
      show - (eziv F a).2 ≤ - ezden r a ∧ - ezden r a ≤ - (eziv F a).1
      omega) h.2
  | .add a b => ezlk_s (by
      have := eziv_s h a
      have := eziv_s h b
      show (eziv F a).1 + (eziv F b).1 ≤ ezden r a + ezden r b ∧ ezden r a + ezden r b ≤ (eziv F a).2 + (eziv F b).2
      omega) h.2
  | .sub a b => ezlk_s (by
      have := eziv_s h a
      have := eziv_s h b
      show (eziv F a).1 - (eziv F b).2 ≤ ezden r a - ezden r b ∧ ezden r a - ezden r b ≤ (eziv F a).2 - (eziv F b).1
      omega) h.2
  | .mul a b => ezlk_s (xmuli_s (eziv_s h a) (eziv_s h b)) h.2
  | .pow (.add b c) k => ezlk_s (ezivop_s (eziv_s h b) (eziv_s h c)) h.2
  | .pow (.neg b) k => ezlk_s (by
      have hb := eziv_s h b
      show _ ≤ xop1 k (ezden r b) ∧ xop1 k (ezden r b) ≤ _
      unfold xop1
      rcases k with _ | _ | k
      · exact xw_rng _
      · exact xw_rng _
      · show -2147483648 ≤ (bif xle 0 (ezden r b) then ezden r b else xw (0 - ezden r b)) ∧ (bif xle 0 (ezden r b) then ezden r b else xw (0 - ezden r b)) ≤ xmx 2147483647 (eziv F b).2
        have m := xmx_s 2147483647 (eziv F b).2
        have w := xw_rng (0 - ezden r b)
        cases hx : xle 0 (ezden r b) with
        | true => rw [xle_iff] at hx; show -2147483648 ≤ ezden r b ∧ ezden r b ≤ _; omega
        | false => show -2147483648 ≤ xw _ ∧ xw _ ≤ _; omega) h.2
  | .pow (.num _) k => ⟨Int.le_refl _, Int.le_refl _⟩
  | .pow (.natCast _) k => ⟨Int.le_refl _, Int.le_refl _⟩
  | .pow (.intCast _) k => ⟨Int.le_refl _, Int.le_refl _⟩
  | .pow (.var _) k => ⟨Int.le_refl _, Int.le_refl _⟩
  | .pow (.sub b c) k => by
      cases b
      case num z =>
        refine ezlk_s ?_ h.2
        have e := h.1.1.1 (z.toNat + 64 * (ezden r c).toNat)
        rw [xvr_f] at e
        exact e
      case natCast z => exact ezlk_s (ezTr_s z _) h.2
      case intCast z => exact ezlk_s (ezghd c) h.2
      all_goals exact ⟨Int.le_refl _, Int.le_refl _⟩
  | .pow (.mul c j) k => ezlk_s ((h.1.1.2.2 k).1 (ezden r c) (ezden r j)) h.2
  | .pow (.pow _ _) k => ⟨Int.le_refl _, Int.le_refl _⟩
end EZ1
