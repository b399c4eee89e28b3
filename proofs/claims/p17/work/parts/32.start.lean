section YK1
theorem yk_len {args : Array Value} {s : State} {t : Term} {N : Nat} (hN : N < 2 ^ 31) (h : (Cond.eq (.length t) (.int (Int32.ofNat N))).before args s = true) : ∃ a cell, t.eval args s none [] s = some (.ref a) ∧ s.arrayAt? a = some cell ∧ cell.slots.size = N := by
  have hv := va_eqt h
  simp only [Term.eval, Option.bind_eq_bind] at hv
  cases ht : t.eval args s none [] s with
  | none => simp [ht] at hv
  | some w =>
    cases w <;> simp [ht] at hv
    case ref a =>
      obtain ⟨cell, hcell, hv⟩ := Option.bind_eq_some_iff.mp hv
      by_cases hn : cell.slots.size < 2147483648
      · rw [if_pos hn] at hv
        refine ⟨a, cell, rfl, hcell, ?_⟩
        have e : cell.slots.size.toInt32 = Int32.ofNat N := Value.int.inj (Option.some.inj hv)
        have e2 : (Int32.ofNat cell.slots.size).toInt = (Int32.ofNat N).toInt := congrArg Int32.toInt e
        rw [Int32.toInt_ofNat_of_lt (by omega), Int32.toInt_ofNat_of_lt hN] at e2
        omega
      · rw [if_neg hn] at hv; cases hv
/-- a static array of ints, out of its words -/
theorem yk_static {args : Array Value} {s : State} {C n : String} {N : Nat} {vals : Nat → Int} {A : Nat → Prop} (hN : N < 2 ^ 31) (hl : (Cond.laysStatic C n "[I").before args s = true) (hini : (Cond.initialized C).before args s = true)
    (harr : (Cond.arrayOf (.static C n "[I") .int).before args s = true) (hlen : (Cond.eq (.length (.static C n "[I")) (.int (Int32.ofNat N))).before args s = true)
    (hel : ∀ j : Nat, j < N → (Cond.eq (.elem (.static C n "[I") (.int (Int32.ofNat j))) (.int (Int32.ofInt (vals j)))).before args s = true) (hA : ∀ a : Nat, a < s.heap.size → ¬ A a) :
    ∃ t : Nat, va_X t N (fun j => Int32.ofInt (vals j)) s s.heap ∧ t < s.heap.size ∧ ¬ A t ∧ va_Z C n "[I" (.ref t) A s s.heap := by
  obtain ⟨t, cell, ht, hat, hsz⟩ := yk_len hN hlen
  obtain ⟨hcell, hkn, -, -⟩ := State.arrayAt?_spec hat
  obtain ⟨hof, -⟩ := Cond.arrayOf_spec harr ht hcell
  have hlt := (Array.getElem?_eq_some_iff.mp hcell).1
  refine ⟨t, ⟨cell, hcell, hof, hkn, hsz, fun j hj => ?_⟩, hlt, hA t hlt, va_Zref hl hini ht hA⟩
  obtain ⟨a, i, cell2, h1, h2, h3, h4, h5⟩ := Term.elem_spec (va_eqt (hel j hj))
  cases ht.symm.trans h1
  cases hat.symm.trans h3
  have hi : i = Int32.ofNat j := by
    have e : (Term.int (Int32.ofNat j)).eval args s none [] s = some (.int (Int32.ofNat j)) := rfl
    cases h2.symm.trans e
    rfl
  have hc : i.toNatClampNeg = j := by rw [hi]; exact Int32.toNatClampNeg_ofNat_of_lt (Nat.lt_trans hj hN)
  rw [hc] at h5
  exact h5
theorem yk_prim {args : Array Value} {s : State} {ty : FieldType} (hp : ty = .int ∨ ty = .long ∨ ty = .boolean) (h : (Cond.arrayClass ty).before args s = true) : ∃ cA, ArrOfT s cA ty ∧ va_RA s cA ty := by
  obtain ⟨cA, k, comp, h1, h2, h3⟩ := Cond.arrayClass_spec h
  refine ⟨cA, fun n z => ?_, ?_⟩
  · unfold State.isArrayOf
    exact ⟨fun q h => (by cases h), k, h2, comp, h3⟩
  · rcases hp with rfl | rfl | rfl <;> exact h1
theorem yk_refs {args : Array Value} {s : State} {C : String} (h : (Cond.arrayOver (.object C)).before args s = true) : ∃ cA, ArrOfT s cA (.object C) ∧ va_RA s cA (.object C) := by
  obtain ⟨comp, cA, k, h1, h2, h3, h4, h5⟩ := Cond.arrayOver_spec h
  refine ⟨cA, fun n z => ?_, k, comp, h3, h4, h1, h5⟩
  unfold State.isArrayOf
  exact ⟨fun q h => (by cases h), k, h3, comp, h4⟩
theorem yk_arrs {args : Array Value} {s : State} {t : FieldType} (h : (Cond.arrayOver (.array t)).before args s = true) : ∃ cA, ArrOfT s cA (.array t) ∧ va_RA s cA (.array t) := by
  obtain ⟨comp, cA, k, h1, h2, h3, h4, h5⟩ := arrayOverA_spec h
  refine ⟨cA, fun n z => ?_, h5⟩
  unfold State.isArrayOf
  exact ⟨fun q h => (by cases h), k, h3, comp, h4⟩
end YK1
