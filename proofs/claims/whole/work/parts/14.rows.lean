section XJ5
variable {p : Program} {l : Launch} {e : Env} {R : Room} {s : State} {m : MethodId} {args : Array Value} {below : List Frame} {meth : Method} {c : Code} {Q : State → Prop} {cl : List vw_C} {D : va_G} {A : Nat → Prop} {tc : Nat → ClassId} {ad : Nat → Nat} {r : Nat → Int32 × Int64} {nL cells slots : Nat}
variable {cc : ByteArray} {pc len : Nat} {lv : List (Nat × xjV)} {st : List xjV} {g : xjG} {L : List (xjFr × xjG)}
/-- from this frame and state the goal is reached, in every heap that holds them -/
noncomputable def xjhold (p : Program) (l : Launch) (e : Env) (R : Room) (s : State) (m : MethodId) (args : Array Value) (below : List Frame) (meth : Method) (c : Code) (Q : State → Prop) (cl : List vw_C) (D : va_G) (A : Nat → Prop) (tc : Nat → ClassId) (ad : Nat → Nat) (r : Nat → Int32 × Int64) (nL cells slots : Nat) (fr : xjFr) (g : xjG) : Prop :=
  ∀ (H : Heap) (locs : List Loc) (ls : Array Slot), va_P D cl (xjws r ad tc g.2.1 g.2.2.1) H → va_D A (xjws r ad tc g.2.1 g.2.2.1) → va_S A s.heap H locs → (g.2.2.2 = true → ad g.2.2.1 = s.heap.size + cells) → g.2.2.1 ≤ 1024 → lv_has ls nL (xjlv r ad fr.2.1) → W p l e R s m args below meth c H locs cells slots Q (F0 m fr.1 ls (fr.2.2.map (xjcv r ad)))
abbrev xjnext (p : Program) (l : Launch) (e : Env) (R : Room) (s : State) (m : MethodId) (args : Array Value) (below : List Frame) (meth : Method) (c : Code) (Q : State → Prop) (cl : List vw_C) (D : va_G) (A : Nat → Prop) (tc : Nat → ClassId) (ad : Nat → Nat) (r : Nat → Int32 × Int64) (nL cells slots : Nat) (L : List (xjFr × xjG)) : Prop := ∀ q ∈ L, xjH r q.2.1 → xjhold p l e R s m args below meth c Q cl D A tc ad r nL cells slots q.1 q.2
theorem xjgo_s {pc2 : Nat} {lv2 : List (Nat × xjV)} {st2 : List xjV} (hk : xjnext p l e R s m args below meth c Q cl D A tc ad r nL cells slots L) (hF : xjH r g.1) (h : xjgo pc2 lv2 st2 g = some L) : xjhold p l e R s m args below meth c Q cl D A tc ad r nL cells slots (pc2, lv2, st2) g := by
  cases h
  exact hk _ (List.mem_singleton.mpr rfl) hF
theorem xjI2_s {f : xjE → xjE → xjE} {f2 : Int32 → Int32 → Int32} (hf : ∀ a b, (xjdn r (f a b)).1 = f2 (xjdn r a).1 (xjdn r b).1)
    (hrow : ∀ (H : Heap) (locs : List Loc) (cells slots : Nat) (ls : Array Slot) (rest : List Value) (x y : Int32), W p l e R s m args below meth c H locs cells slots Q (F0 m (pc + 1) ls (.int (f2 x y) :: rest)) → W p l e R s m args below meth c H locs cells slots Q (F0 m pc ls (.int y :: .int x :: rest)))
    (hk : xjnext p l e R s m args below meth c Q cl D A tc ad r nL cells slots L) (hF : xjH r g.1) (h : xjI2 f pc lv st g = some L) : xjhold p l e R s m args below meth c Q cl D A tc ad r nL cells slots (pc, lv, st) g := by
  unfold xjI2 at h
  split at h
  · have := xjgo_s hk hF h
    intro H locs ls hP hD hS hm hn hl
    refine hrow H locs _ _ ls _ _ _ ?_
    have h1 := this H locs ls hP hD hS hm hn hl
    rw [← hf]
    exact h1
  · cases h
theorem xjI1_s {f : xjE → xjE} {f2 : Int32 → Int32} (hf : ∀ a, (xjdn r (f a)).1 = f2 (xjdn r a).1)
    (hrow : ∀ (H : Heap) (locs : List Loc) (cells slots : Nat) (ls : Array Slot) (rest : List Value) (x : Int32), W p l e R s m args below meth c H locs cells slots Q (F0 m (pc + 1) ls (.int (f2 x) :: rest)) → W p l e R s m args below meth c H locs cells slots Q (F0 m pc ls (.int x :: rest)))
    (hk : xjnext p l e R s m args below meth c Q cl D A tc ad r nL cells slots L) (hF : xjH r g.1) (h : xjI1 f pc lv st g = some L) : xjhold p l e R s m args below meth c Q cl D A tc ad r nL cells slots (pc, lv, st) g := by
  unfold xjI1 at h
  split at h
  · have := xjgo_s hk hF h
    intro H locs ls hP hD hS hm hn hl
    refine hrow H locs _ _ ls _ _ ?_
    have h1 := this H locs ls hP hD hS hm hn hl
    rw [← hf]
    exact h1
  · cases h
theorem xjL2_s {f : Int64 → Int64 → Int64}
    (hrow : ∀ (H : Heap) (locs : List Loc) (cells slots : Nat) (ls : Array Slot) (rest : List Value) (x y : Int64), W p l e R s m args below meth c H locs cells slots Q (F0 m (pc + 1) ls (.long (f x y) :: rest)) → W p l e R s m args below meth c H locs cells slots Q (F0 m pc ls (.long y :: .long x :: rest)))
    (hk : xjnext p l e R s m args below meth c Q cl D A tc ad r nL cells slots L) (hF : xjH r g.1) (h : xjL2 f pc lv st g = some L) : xjhold p l e R s m args below meth c Q cl D A tc ad r nL cells slots (pc, lv, st) g := by
  unfold xjL2 at h
  split at h
  · have := xjgo_s hk hF h
    intro H locs ls hP hD hS hm hn hl
    refine hrow H locs _ _ ls _ _ _ ?_
    have h1 := this H locs ls hP hD hS hm hn hl
    have e1 : ∀ z : Int64, xjcv r ad (1, Lean.Grind.CommRing.Expr.num z.toInt) = .long z := fun z => congrArg Value.long (Int64.ofInt_toInt z)
    rw [List.map_cons, e1] at h1
    exact h1
  · cases h
theorem xjLI_s {f : Int64 → Int32 → Int64}
    (hrow : ∀ (H : Heap) (locs : List Loc) (cells slots : Nat) (ls : Array Slot) (rest : List Value) (x : Int64) (y : Int32), W p l e R s m args below meth c H locs cells slots Q (F0 m (pc + 1) ls (.long (f x y) :: rest)) → W p l e R s m args below meth c H locs cells slots Q (F0 m pc ls (.int y :: .long x :: rest)))
    (hk : xjnext p l e R s m args below meth c Q cl D A tc ad r nL cells slots L) (hF : xjH r g.1) (h : xjLI f pc lv st g = some L) : xjhold p l e R s m args below meth c Q cl D A tc ad r nL cells slots (pc, lv, st) g := by
  unfold xjLI at h
  split at h
  · have := xjgo_s hk hF h
    intro H locs ls hP hD hS hm hn hl
    refine hrow H locs _ _ ls _ _ _ ?_
    have h1 := this H locs ls hP hD hS hm hn hl
    have e1 : ∀ z : Int64, xjcv r ad (1, Lean.Grind.CommRing.Expr.num z.toInt) = .long z := fun z => congrArg Value.long (Int64.ofInt_toInt z)
    rw [List.map_cons, e1] at h1
    exact h1
  · cases h
theorem xjci_s {n : Int} {v : Int32} (hv : Int32.ofInt n = v) (hk : xjnext p l e R s m args below meth c Q cl D A tc ad r nL cells slots L) (hF : xjH r g.1)
    (hrow : ∀ (H : Heap) (locs : List Loc) (cells slots : Nat) (ls : Array Slot) (rest : List Value), W p l e R s m args below meth c H locs cells slots Q (F0 m (pc + len) ls (.int v :: rest)) → W p l e R s m args below meth c H locs cells slots Q (F0 m pc ls rest))
    (h : xjgo (pc + len) lv ((0, .num n) :: st) g = some L) : xjhold p l e R s m args below meth c Q cl D A tc ad r nL cells slots (pc, lv, st) g := by
  have := xjgo_s hk hF h
  intro H locs ls hP hD hS hm hn hl
  refine hrow H locs _ _ ls _ ?_
  rw [← hv]
  exact this H locs ls hP hD hS hm hn hl
theorem xjcl_s {n : Int} {v : Int64} (hv : Int64.ofInt n = v) (hk : xjnext p l e R s m args below meth c Q cl D A tc ad r nL cells slots L) (hF : xjH r g.1)
    (hrow : ∀ (H : Heap) (locs : List Loc) (cells slots : Nat) (ls : Array Slot) (rest : List Value), W p l e R s m args below meth c H locs cells slots Q (F0 m (pc + len) ls (.long v :: rest)) → W p l e R s m args below meth c H locs cells slots Q (F0 m pc ls rest))
    (h : xjgo (pc + len) lv ((1, .num n) :: st) g = some L) : xjhold p l e R s m args below meth c Q cl D A tc ad r nL cells slots (pc, lv, st) g := by
  have := xjgo_s hk hF h
  intro H locs ls hP hD hS hm hn hl
  refine hrow H locs _ _ ls _ ?_
  rw [← hv]
  exact this H locs ls hP hD hS hm hn hl
theorem xjload_s {k i : Nat} (hk : xjnext p l e R s m args below meth c Q cl D A tc ad r nL cells slots L) (hF : xjH r g.1)
    (hrow : ∀ (H : Heap) (locs : List Loc) (cells slots : Nat) (ls : Array Slot) (rest : List Value) (v : Value), ((k = 0 ∧ ∃ x : Int32, v = .int x) ∨ (k = 1 ∧ ∃ x : Int64, v = .long x) ∨ (k = 2 ∧ ∃ x : Nat, v = .ref x)) → ls[i]? = some (.val v) → W p l e R s m args below meth c H locs cells slots Q (F0 m (pc + len) ls (v :: rest)) → W p l e R s m args below meth c H locs cells slots Q (F0 m pc ls rest))
    (h : xjload k (pc + len) i lv st g = some L) : xjhold p l e R s m args below meth c Q cl D A tc ad r nL cells slots (pc, lv, st) g := by
  unfold xjload at h
  split at h
  · rename_i x hg
    cases hb : Nat.beq k 0 with
    | false => rw [hb] at h; cases h
    | true =>
      rw [hb] at h
      have := xjgo_s hk hF h
      intro H locs ls hP hD hS hm hn hl
      refine hrow H locs _ _ ls _ (.int (xjdn r x).1) (Or.inl ⟨Nat.eq_of_beq_eq_true hb, _, rfl⟩) (xjlv_m hg hl) ?_
      rw [← xjnorm_s hF]
      exact this H locs ls hP hD hS hm hn hl
  · rename_i x hg
    cases hb : Nat.beq k 1 with
    | false => rw [hb] at h; cases h
    | true =>
      rw [hb] at h
      have := xjgo_s hk hF h
      intro H locs ls hP hD hS hm hn hl
      exact hrow H locs _ _ ls _ (.long (xjdn r x).2) (Or.inr (Or.inl ⟨Nat.eq_of_beq_eq_true hb, _, rfl⟩)) (xjlv_m hg hl) (this H locs ls hP hD hS hm hn hl)
  · rename_i x hg
    cases hb : Nat.beq k 2 with
    | false => rw [hb] at h; cases h
    | true =>
      rw [hb] at h
      have := xjgo_s hk hF h
      intro H locs ls hP hD hS hm hn hl
      exact hrow H locs _ _ ls _ (.ref (ad x.toNat)) (Or.inr (Or.inr ⟨Nat.eq_of_beq_eq_true hb, _, rfl⟩)) (xjlv_m hg hl) (this H locs ls hP hD hS hm hn hl)
  · cases h
theorem xjstore_s {k i : Nat} (hk : xjnext p l e R s m args below meth c Q cl D A tc ad r nL cells slots L) (hF : xjH r g.1)
    (hrow : ∀ (H : Heap) (locs : List Loc) (cells slots : Nat) (ls : Array Slot) (rest : List Value) (v : Value) (lw : List (Nat × Value)), ((k = 0 ∧ i < nL ∧ ∃ x : Int32, v = .int x) ∨ (k = 2 ∧ i < nL ∧ ∃ x : Nat, v = .ref x)) → lv_has ls nL lw → (∀ ls' : Array Slot, lv_has ls' nL ((i, v) :: lw.filter (fun q => !(q.1 == i) && !(q.1 + 1 == i && q.2.category == 2))) → W p l e R s m args below meth c H locs cells slots Q (F0 m (pc + len) ls' rest)) → W p l e R s m args below meth c H locs cells slots Q (F0 m pc ls (v :: rest)))
    (hrow2 : ∀ (H : Heap) (locs : List Loc) (cells slots : Nat) (ls : Array Slot) (rest : List Value) (x : Int64) (v : Value) (lw : List (Nat × Value)), k = 1 → i + 1 < nL → v = .long x → lv_has ls nL lw → (∀ ls' : Array Slot, lv_has ls' nL ((i, v) :: lw.filter (fun q => !(q.1 == i) && (!(q.1 == i + 1) && !(q.1 + 1 == i && q.2.category == 2)))) → W p l e R s m args below meth c H locs cells slots Q (F0 m (pc + len) ls' rest)) → W p l e R s m args below meth c H locs cells slots Q (F0 m pc ls (v :: rest)))
    (h : xjstore nL k (pc + len) i lv st g = some L) : xjhold p l e R s m args below meth c Q cl D A tc ad r nL cells slots (pc, lv, st) g := by
  unfold xjstore at h
  split at h
  · rename_i x t
    cases hb : Nat.beq k 0 && Nat.blt i nL with
    | false => rw [hb] at h; cases h
    | true =>
      rw [hb] at h
      rw [Bool.and_eq_true] at hb
      have := xjgo_s hk hF h
      intro H locs ls hP hD hS hm hn hl
      refine hrow H locs _ _ ls _ (.int (xjdn r x).1) _ (Or.inl ⟨Nat.eq_of_beq_eq_true hb.1, Nat.ble_eq.mp hb.2, _, rfl⟩) hl (fun ls' hl' => ?_)
      rw [show Value.int (xjdn r x).1 = xjcv r ad (0, x) from rfl, xjst1_s] at hl'
      exact this H locs ls' hP hD hS hm hn hl'
  · rename_i x t
    cases hb : Nat.beq k 1 && Nat.blt (i + 1) nL with
    | false => rw [hb] at h; cases h
    | true =>
      rw [hb] at h
      rw [Bool.and_eq_true] at hb
      have := xjgo_s hk hF h
      intro H locs ls hP hD hS hm hn hl
      refine hrow2 H locs _ _ ls _ _ (.long (xjdn r x).2) _ (Nat.eq_of_beq_eq_true hb.1) (Nat.ble_eq.mp hb.2) rfl hl (fun ls' hl' => ?_)
      rw [show Value.long (xjdn r x).2 = xjcv r ad (1, x) from rfl, xjst2_s] at hl'
      exact this H locs ls' hP hD hS hm hn hl'
  · rename_i x t
    cases hb : Nat.beq k 2 && Nat.blt i nL with
    | false => rw [hb] at h; cases h
    | true =>
      rw [hb] at h
      rw [Bool.and_eq_true] at hb
      have := xjgo_s hk hF h
      intro H locs ls hP hD hS hm hn hl
      refine hrow H locs _ _ ls _ (.ref (ad x.toNat)) _ (Or.inr ⟨Nat.eq_of_beq_eq_true hb.1, Nat.ble_eq.mp hb.2, _, rfl⟩) hl (fun ls' hl' => ?_)
      rw [show Value.ref (ad x.toNat) = xjcv r ad (2, .num x) from rfl, xjst1_s] at hl'
      exact this H locs ls' hP hD hS hm hn hl'
  · cases h
theorem xjfork_s {off : Int} {B : List (Bool × xjF)} {P : Prop} (hB : ∃ q ∈ B, xjH r q.2 ∧ (q.1 = true ↔ P)) (hk : xjnext p l e R s m args below meth c Q cl D A tc ad r nL cells slots L) {st2 : List xjV}
    (hrow : ∀ (H : Heap) (locs : List Loc) (cells slots : Nat) (ls : Array Slot) (tgt : Nat), (pc : Int) + off = (tgt : Int) → (P → W p l e R s m args below meth c H locs cells slots Q (F0 m tgt ls (st2.map (xjcv r ad)))) → (¬ P → W p l e R s m args below meth c H locs cells slots Q (F0 m (pc + 3) ls (st2.map (xjcv r ad)))) → W p l e R s m args below meth c H locs cells slots Q (F0 m pc ls (st.map (xjcv r ad))))
    (h : xjfork pc off B lv st2 g = some L) : xjhold p l e R s m args below meth c Q cl D A tc ad r nL cells slots (pc, lv, st) g := by
  unfold xjfork at h
  split at h
  · rename_i n hn9
    cases h
    intro H locs ls hP hD hS hm hn hl
    obtain ⟨q, q1, q2, q3⟩ := hB
    have h1 := hk _ (List.mem_map.mpr ⟨q, q1, rfl⟩) q2 H locs ls hP hD hS hm hn hl
    refine hrow H locs _ _ ls n (xjtgt_s hn9) (fun hp => ?_) (fun hp => ?_)
    · have hq := q3.mpr hp
      obtain ⟨b, F⟩ := q
      cases hq
      exact h1
    · have hq : q.1 = false := by
        cases hb : q.1 with
        | false => rfl
        | true => exact absurd (q3.mp hb) hp
      obtain ⟨b, F⟩ := q
      cases hq
      exact h1
  · cases h
theorem xjsplit_s {x : xjE} {mk : xjE → List xjV} (hmk : ∀ y z : xjE, (xjdn r y).1 = (xjdn r z).1 → (mk y).map (xjcv r ad) = (mk z).map (xjcv r ad)) (hk : xjnext p l e R s m args below meth c Q cl D A tc ad r nL cells slots L) (hF : xjH r g.1)
    (h : xjsplit pc lv x mk g = some L) : xjhold p l e R s m args below meth c Q cl D A tc ad r nL cells slots (pc, lv, mk x) g := by
  unfold xjsplit at h
  split at h
  · rename_i n hn9
    cases hb : Nat.ble n 800 with
    | false => rw [hb] at h; cases h
    | true =>
      rw [hb] at h
      cases h
      have h2 := xjiv_s hF x
      have hn : (xjiv g.1 x).2 - (xjiv g.1 x).1 = (n : Int) := hn9
      have h3 : ∃ i : Nat, i < n + 1 ∧ (xjdn r x).1.toInt = (xjiv g.1 x).1 + (i : Int) := ⟨((xjdn r x).1.toInt - (xjiv g.1 x).1).toNat, by omega, by omega⟩
      obtain ⟨i, hi, hi2⟩ := h3
      intro H locs ls hP hD hS hm hn hl
      have h4 := hk _ (List.mem_map.mpr ⟨i, List.mem_range.mpr hi, rfl⟩) (fun q hq => (List.mem_cons.mp hq).elim (fun z => by rw [z]; exact ⟨by show _ ≤ (xjdn r x).1.toInt; rw [hi2]; exact Int.le_refl _, by show (xjdn r x).1.toInt ≤ _; rw [hi2]; exact Int.le_refl _⟩) (hF q)) H locs ls hP hD hS hm hn hl
      have h5 := hmk x (.num ((xjiv g.1 x).1 + (i : Int))) (by show _ = Int32.ofInt _; rw [← hi2, Int32.ofInt_toInt])
      show W p l e R s m args below meth c H locs _ _ Q (F0 m pc ls ((mk x).map (xjcv r ad)))
      rw [h5]
      exact h4
  · cases h
end XJ5
