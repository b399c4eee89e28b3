section EZ1
/-! E2: terms over numbers and heap versions -/
/-- numbers, heap versions, the flag -/
abbrev ezR := (Nat → Int) × (Nat → Int → Int → Int) × Bool
/-- what a term tells -/
def ezden (r : ezR) : xjE → Int
  | .num k => k
  | .natCast _ => 0
  | .intCast _ => 0
  | .var i => r.1 i
  | .neg a => - ezden r a
  | .add a b => ezden r a + ezden r b
  | .sub a b => ezden r a - ezden r b
  | .mul a b => ezden r a * ezden r b
  | .pow a k => (match a with
    | .add b c => xop k (ezden r b) (ezden r c)
    | .neg b => xop1 k (ezden r b)
    | .sub b c => (match b with
      | .num z => r.1 (z.toNat + 64 * (ezden r c).toNat)
      | .natCast z => ((ezTb z)[(ezden r c).toNat]?).getD 0
      | _ => 0)
    | .mul c j => r.2.1 k (ezden r c) (ezden r j)
    | _ => 0)
/-- a heap that keeps its ranges -/
def ezHT (H : Int → Int → Int) : Prop := (∀ a j : Int, -9223372036854775808 ≤ H a j ∧ H a j ≤ 9223372036854775807) ∧ ∀ a j : Nat, a < 512 → j < ezL a → (ezSl a j).2.1 ≤ H a j ∧ H a j ≤ (ezSl a j).2.2.1 ∧ ((ezSl a j).2.2.2 = [] ∨ ∃ n ∈ (ezSl a j).2.2.2, H a j = ((n : Nat) : Int))
def ezrok (r : ezR) : Prop := (∀ i, (xvr i).1 ≤ r.1 i ∧ r.1 i ≤ (xvr i).2) ∧ (∀ i, ezDv i = [] ∨ ∃ n ∈ ezDv i, r.1 i = ((n : Nat) : Int)) ∧ ∀ v, ezHT (r.2.1 v)
def ezH (Q : ezR → Prop) (r : ezR) (F : xF) : Prop := (ezrok r ∧ Q r) ∧ ∀ q ∈ F, q.2.1 ≤ ezden r q.1 ∧ ezden r q.1 ≤ q.2.2
variable {Q : ezR → Prop}
theorem ezlk_s {r : ezR} {e : xjE} {d : Int × Int} (hd : d.1 ≤ ezden r e ∧ ezden r e ≤ d.2) : ∀ {F : xF}, (∀ q ∈ F, q.2.1 ≤ ezden r q.1 ∧ ezden r q.1 ≤ q.2.2) → (xlk F e d).1 ≤ ezden r e ∧ ezden r e ≤ (xlk F e d).2 := by
  intro F
  induction F with
  | nil => intro _; exact hd
  | cons q F ih =>
    intro h
    show (bif xeq q.1 e then q.2 else xlk F e d).1 ≤ _ ∧ _ ≤ (bif xeq q.1 e then q.2 else xlk F e d).2
    cases hq : xeq q.1 e with
    | true =>
      have he := xeq_s hq
      subst he
      exact h q List.mem_cons_self
    | false => exact ih (fun q hq => h q (List.mem_cons_of_mem _ hq))
/-- what is known of a term: its least and its greatest -/
def eziv (F : xF) : xjE → Int × Int
  | .num k => (k, k)
  | .natCast _ => (0, 0)
  | .intCast _ => (0, 0)
  | .var i => xlk F (.var i) (xvr i)
  | .neg a => xlk F (.neg a) (- (eziv F a).2, - (eziv F a).1)
  | .add a b => xlk F (.add a b) ((eziv F a).1 + (eziv F b).1, (eziv F a).2 + (eziv F b).2)
  | .sub a b => xlk F (.sub a b) ((eziv F a).1 - (eziv F b).2, (eziv F a).2 - (eziv F b).1)
  | .mul a b => xlk F (.mul a b) (xmuli (eziv F a) (eziv F b))
  | .pow a k => (match a with
    | .add b c => xlk F (.pow (.add b c) k) (ezivop k (eziv F b) (eziv F c))
    | .neg b => xlk F (.pow (.neg b) k) (match k with | 0 => xdef32 | 1 => xdef32 | _ => (-2147483648, xmx 2147483647 (eziv F b).2))
    | .sub b c => (match b with
      | .num z => xlk F (.pow (.sub (.num z) c) k) (xvr z.toNat)
      | .natCast z => xlk F (.pow (.sub (.natCast z) c) k) (ezTr z)
      | _ => (0, 0))
    | .mul c j => xlk F (.pow (.mul c j) k) xdef64
    | _ => (0, 0))
theorem eziv_s {r : ezR} {F : xF} (h : ezH Q r F) : ∀ e : xjE, (eziv F e).1 ≤ ezden r e ∧ ezden r e ≤ (eziv F e).2
  | .num k => ⟨Int.le_refl _, Int.le_refl _⟩
  | .natCast _ => ⟨Int.le_refl _, Int.le_refl _⟩
  | .intCast _ => ⟨Int.le_refl _, Int.le_refl _⟩
  | .var i => ezlk_s (h.1.1.1 i) h.2
  | .neg a => ezlk_s (by
      have := eziv_s h a
      show - (eziv F a).2 ≤ - ezden r a ∧ - ezden r a ≤ - (eziv F a).1
      omega) h.2
  | .add a b => ezlk_s (by
      have := eziv_s h a
      have := eziv_s h b
      show (eziv F a).1 + (eziv F b).1 ≤ ezden r a + ezden r b ∧ ezden r a + ezden r b ≤ (eziv F a).2 + (eziv F b).2
      omega) h.2
  | .sub a b => ezlk_s (by
      have := eziv_s h a
      have := eziv_s h b
      show (eziv F a).1 - (eziv F b).2 ≤ ezden r a - ezden r b ∧ ezden r a - ezden r b ≤ (eziv F a).2 - (eziv F b).1
      omega) h.2
  | .mul a b => ezlk_s (xmuli_s (eziv_s h a) (eziv_s h b)) h.2
  | .pow (.add b c) k => ezlk_s (ezivop_s (eziv_s h b) (eziv_s h c)) h.2
  | .pow (.neg b) k => ezlk_s (by
      have hb := eziv_s h b
      show _ ≤ xop1 k (ezden r b) ∧ xop1 k (ezden r b) ≤ _
      unfold xop1
      rcases k with _ | _ | k
      · exact xw_rng _
      · exact xw_rng _
      · show -2147483648 ≤ (bif xle 0 (ezden r b) then ezden r b else xw (0 - ezden r b)) ∧ (bif xle 0 (ezden r b) then ezden r b else xw (0 - ezden r b)) ≤ xmx 2147483647 (eziv F b).2
        have m := xmx_s 2147483647 (eziv F b).2
        have w := xw_rng (0 - ezden r b)
        cases hx : xle 0 (ezden r b) with
        | true => rw [xle_iff] at hx; show -2147483648 ≤ ezden r b ∧ ezden r b ≤ _; omega
        | false => show -2147483648 ≤ xw _ ∧ xw _ ≤ _; omega) h.2
  | .pow (.num _) k => ⟨Int.le_refl _, Int.le_refl _⟩
  | .pow (.natCast _) k => ⟨Int.le_refl _, Int.le_refl _⟩
  | .pow (.intCast _) k => ⟨Int.le_refl _, Int.le_refl _⟩
  | .pow (.var _) k => ⟨Int.le_refl _, Int.le_refl _⟩
  | .pow (.sub b c) k => by
      cases b
      case num z =>
        refine ezlk_s ?_ h.2
        have e := h.1.1.1 (z.toNat + 64 * (ezden r c).toNat)
        rw [xvr_f] at e
        exact e
      case natCast z => exact ezlk_s (ezTr_s z _) h.2
      all_goals exact ⟨Int.le_refl _, Int.le_refl _⟩
  | .pow (.mul c j) k => ezlk_s ((h.1.1.2.2 k).1 (ezden r c) (ezden r j)) h.2
  | .pow (.pow _ _) k => ⟨Int.le_refl _, Int.le_refl _⟩
end EZ1
