section YD1
/-! TABLES AS TREES, and what is asked of them, as programs -/
abbrev ydT (V : Type) := Lean.RArray (Option (Nat × V))
def ydget {V : Type} (t : ydT V) (i : Nat) : Option V := match t.get i with
  | some (j, v) => bif Nat.beq j i then some v else none
  | none => none
def ydall {α : Type} (f : α → Bool) : Lean.RArray α → Bool
  | .leaf a => f a
  | .branch _ l r => ydall f l && ydall f r
theorem ydall_s {α : Type} {f : α → Bool} : ∀ {t : Lean.RArray α}, ydall f t = true → ∀ i, f (t.get i) = true := by
  intro t
  induction t with
  | leaf a => intro h i; exact h
  | branch p l r ihl ihr =>
    intro h i
    unfold ydall at h
    rw [Bool.and_eq_true] at h
    show f ((Nat.ble p i).rec (l.get i) (r.get i)) = true
    cases Nat.ble p i with
    | true => exact ihr h.2 i
    | false => exact ihl h.1 i
def ydck {V : Type} (f : Nat → V → Bool) (t : ydT V) : Bool := ydall (fun o => match o with | some q => f q.1 q.2 | none => true) t
theorem ydck_s {V : Type} {f : Nat → V → Bool} {t : ydT V} (h : ydck f t = true) {i : Nat} {v : V} (hg : ydget t i = some v) : f i v = true := by
  have h1 := ydall_s h i
  unfold ydget at hg
  split at hg
  · rename_i j v2 hj
    cases hb : Nat.beq j i with
    | false => rw [hb] at hg; cases hg
    | true =>
      rw [hb] at hg
      have e := Nat.eq_of_beq_eq_true hb
      rw [hj] at h1
      have e2 : v2 = v := Option.some.inj hg
      rw [← e, ← e2]
      exact h1
  · cases hg
/-- a place among the words -/
abbrev ydP := Nat × Nat
def ydch : Nat → List Cond
  | 0 => k2_sels lw_privs
  | 1 => tables_1_1
  | 2 => tables_1_2
  | 3 => tables_1_3
  | 4 => tables_1_4
  | 5 => tables_1_5
  | 6 => tables_1_6
  | 7 => tables_1_7
  | 8 => tables_1_8
  | 9 => tables_1_9
  | 10 => tables_1_10
  | 11 => tables_1_11
  | 12 => tables_1_12
  | 13 => tables_1_13
  | 14 => tables_1_14
  | 15 => tables_1_15
  | 16 => tables_1_16
  | 17 => tables_1_17
  | 18 => tables_1_18
  | 19 => tables_1_19
  | 20 => tables_1_20
  | 21 => tables_1_21
  | 22 => tables_1_22
  | 23 => tables_1_23
  | _ => [Cond.code x code maxLocals ret]
def ydall9 : List Cond := Cond.code x code maxLocals ret :: lw_tbl
theorem ydch_s (c : Nat) : ∀ w ∈ ydch c, w ∈ ydall9 := by
  intro w hw
  unfold ydall9 lw_tbl tables_1
  match c, hw with
  | 0, hw => exact List.mem_cons_of_mem _ (List.mem_append_left _ hw)
  | 1, hw => simp only [List.mem_cons, List.mem_append]; simp [show w ∈ tables_1_1 from hw]
  | 2, hw => simp only [List.mem_cons, List.mem_append]; simp [show w ∈ tables_1_2 from hw]
  | 3, hw => simp only [List.mem_cons, List.mem_append]; simp [show w ∈ tables_1_3 from hw]
  | 4, hw => simp only [List.mem_cons, List.mem_append]; simp [show w ∈ tables_1_4 from hw]
  | 5, hw => simp only [List.mem_cons, List.mem_append]; simp [show w ∈ tables_1_5 from hw]
  | 6, hw => simp only [List.mem_cons, List.mem_append]; simp [show w ∈ tables_1_6 from hw]
  | 7, hw => simp only [List.mem_cons, List.mem_append]; simp [show w ∈ tables_1_7 from hw]
  | 8, hw => simp only [List.mem_cons, List.mem_append]; simp [show w ∈ tables_1_8 from hw]
  | 9, hw => simp only [List.mem_cons, List.mem_append]; simp [show w ∈ tables_1_9 from hw]
  | 10, hw => simp only [List.mem_cons, List.mem_append]; simp [show w ∈ tables_1_10 from hw]
  | 11, hw => simp only [List.mem_cons, List.mem_append]; simp [show w ∈ tables_1_11 from hw]
  | 12, hw => simp only [List.mem_cons, List.mem_append]; simp [show w ∈ tables_1_12 from hw]
  | 13, hw => simp only [List.mem_cons, List.mem_append]; simp [show w ∈ tables_1_13 from hw]
  | 14, hw => simp only [List.mem_cons, List.mem_append]; simp [show w ∈ tables_1_14 from hw]
  | 15, hw => simp only [List.mem_cons, List.mem_append]; simp [show w ∈ tables_1_15 from hw]
  | 16, hw => simp only [List.mem_cons, List.mem_append]; simp [show w ∈ tables_1_16 from hw]
  | 17, hw => simp only [List.mem_cons, List.mem_append]; simp [show w ∈ tables_1_17 from hw]
  | 18, hw => simp only [List.mem_cons, List.mem_append]; simp [show w ∈ tables_1_18 from hw]
  | 19, hw => simp only [List.mem_cons, List.mem_append]; simp [show w ∈ tables_1_19 from hw]
  | 20, hw => simp only [List.mem_cons, List.mem_append]; simp [show w ∈ tables_1_20 from hw]
  | 21, hw => simp only [List.mem_cons, List.mem_append]; simp [show w ∈ tables_1_21 from hw]
  | 22, hw => simp only [List.mem_cons, List.mem_append]; simp [show w ∈ tables_1_22 from hw]
  | 23, hw => simp only [List.mem_cons, List.mem_append]; simp [show w ∈ tables_1_23 from hw]
  | c + 24, hw =>
    rcases List.mem_cons.mp (show w ∈ [Cond.code x code maxLocals ret] from hw) with h | h
    · rw [h]; exact List.mem_cons_self
    · cases h
/-- the words that stay true -/
def ydTs : List Cond := ydall9.filter ycgw
def ydw (h : ydP) (w : Cond) : Bool := decide ((ydch h.1)[h.2]? = some w) && ycgw w
theorem ydw_s {h : ydP} {w : Cond} (hw : ydw h w = true) : w ∈ ydTs := by
  unfold ydw at hw
  rw [Bool.and_eq_true] at hw
  exact List.mem_filter.mpr ⟨ydch_s h.1 _ (List.mem_of_getElem? (of_decide_eq_true hw.1)), hw.2⟩
/-- a word somewhere in these lists -/
def ydin (cs : List Nat) (w : Cond) : Bool := cs.any (fun c => decide (w ∈ ydch c)) && ycgw w
theorem ydin_s {cs : List Nat} {w : Cond} (hw : ydin cs w = true) : w ∈ ydTs := by
  unfold ydin at hw
  rw [Bool.and_eq_true] at hw
  obtain ⟨c, -, hc⟩ := List.any_eq_true.mp hw.1
  exact List.mem_filter.mpr ⟨ydch_s c _ (of_decide_eq_true hc), hw.2⟩
/-- a kind of objects: class, fields (owner, name, descriptor, final), places of the words -/
abbrev ydK := String × List (String × String × String × Bool) × List ydP
def ydF (q : ydK) : u_T := fun k => (q.2.1[k]?).getD ("", "", "", false)
def ydty (q : ydK) (k : Nat) : FieldType := (parseFieldDescriptor (ydF q k).2.2.1).getD .int
def ydsorts (t : FieldType) : Nat := match t with
  | .int => 0
  | .boolean => 1
  | .long => 2
  | .object _ => 3
  | .array _ => 3
  | _ => 9
def yddf (t : FieldType) : ycV := match t with
  | .int => (0, 0)
  | .boolean => (0, 0)
  | .long => (1, 0)
  | _ => (3, 0)
theorem yddf_s {t : FieldType} (h : Nat.ble (ydsorts t) 3 = true) (ad oa : Nat → Nat) : defaultValue t = ycv ad oa (yddf t) := by
  cases t <;> first | rfl | cases h
theorem ydsort_s {t : FieldType} {n : Nat} (h : Nat.beq (ydsorts t) n = true) (h2 : Nat.ble n 3 = true) : ycsort n t := by
  have e := Nat.eq_of_beq_eq_true h
  subst e
  cases t <;> first | rfl | exact Or.inl ⟨_, rfl⟩ | exact Or.inr ⟨_, rfl⟩ | cases h2
/-- a number made of a text -/
def ydhash (s : String) : Nat := s.toByteArray.data.toList.foldl (fun a b => a * 256 + b.toNat) 1
def ydnone (n : Nat) : List Nat → Bool
  | [] => true
  | k :: l => (bif Nat.beq n k then false else true) && ydnone n l
def ydapart : List Nat → Bool
  | [] => true
  | n :: l => ydnone n l && ydapart l
def ydpair (l : List (String × String × String × Bool)) : Bool := ydapart (l.map fun q => ydhash q.2.1)
def ydkok (q : ydK) : Bool := (List.range q.2.1.length).all (fun k => (match q.2.2[k]? with | some h => ydw h (u_lay q.1 (ydF q) k) | none => false) && ((parseFieldDescriptor (ydF q k).2.2.1).isSome && Nat.ble (ydsorts (ydty q k)) 3)) && ydpair q.2.1
theorem ydnone_s {n : Nat} : ∀ {l : List Nat}, ydnone n l = true → ∀ k ∈ l, n ≠ k := by
  intro l
  induction l with
  | nil => intro _ k hk; cases hk
  | cons k l ih =>
    intro h j hj
    unfold ydnone at h
    rw [Bool.and_eq_true] at h
    rcases List.mem_cons.mp hj with e | e
    · subst e
      intro z
      have h1 := h.1
      rw [z, Nat.beq_refl] at h1
      cases h1
    · exact ih h.2 j e
theorem ydapart_s : ∀ {l : List Nat}, ydapart l = true → ∀ (a b : Nat) (u v : Nat), l[a]? = some u → l[b]? = some v → a ≠ b → u ≠ v := by
  intro l
  induction l with
  | nil => intro _ a b u v ha; simp at ha
  | cons q l ih =>
    intro h a b u v ha hb hab
    unfold ydapart at h
    rw [Bool.and_eq_true] at h
    match a, b with
    | 0, 0 => exact absurd rfl hab
    | 0, b + 1 =>
      have e : q = u := Option.some.inj ha
      rw [← e]
      exact ydnone_s h.1 v (List.mem_of_getElem? hb)
    | a + 1, 0 =>
      have e : q = v := Option.some.inj hb
      rw [← e]
      exact fun z => ydnone_s h.1 u (List.mem_of_getElem? ha) z.symm
    | a + 1, b + 1 => exact ih h.2 a b u v ha hb (fun z => hab (by rw [z]))
theorem ydpair_s {l : List (String × String × String × Bool)} (h : ydpair l = true) : ∀ a, a < l.length → ∀ b, b < l.length → a ≠ b → ((l[a]?).getD ("", "", "", false)).2.1 ≠ ((l[b]?).getD ("", "", "", false)).2.1 := by
  intro a ha b hb hab z
  refine ydapart_s h a b (ydhash (l[a]).2.1) (ydhash (l[b]).2.1) ?_ ?_ hab ?_
  · rw [List.getElem?_map, List.getElem?_eq_getElem ha]; rfl
  · rw [List.getElem?_map, List.getElem?_eq_getElem hb]; rfl
  · rw [List.getElem?_eq_getElem ha, List.getElem?_eq_getElem hb] at z
    exact congrArg ydhash z
theorem ydkok_s {q : ydK} (h : ydkok q = true) : (∀ w ∈ u_ws q.1 (ydF q) q.2.1.length, w ∈ ydTs) ∧ (∀ k, k < q.2.1.length → parseFieldDescriptor (ydF q k).2.2.1 = some (ydty q k)) ∧ (∀ k, k < q.2.1.length → Nat.ble (ydsorts (ydty q k)) 3 = true) ∧ (∀ a, a < q.2.1.length → ∀ b, b < q.2.1.length → a ≠ b → (ydF q a).2.1 ≠ (ydF q b).2.1) := by
  unfold ydkok at h
  rw [Bool.and_eq_true] at h
  have h1 := List.all_eq_true.mp h.1
  have h2 : ∀ k, k < q.2.1.length → (match q.2.2[k]? with | some h => ydw h (u_lay q.1 (ydF q) k) | none => false) = true ∧ (parseFieldDescriptor (ydF q k).2.2.1).isSome = true ∧ Nat.ble (ydsorts (ydty q k)) 3 = true := fun k hk => by
    have := h1 k (List.mem_range.mpr hk)
    rw [Bool.and_eq_true, Bool.and_eq_true] at this
    exact this
  refine ⟨fun w hw => ?_, fun k hk => ?_, fun k hk => (h2 k hk).2.2, fun a ha b hb hab => ydpair_s h.2 a ha b hb hab⟩
  · obtain ⟨k, hk, rfl⟩ := List.mem_map.mp hw
    have h3 := (h2 k (List.mem_range.mp hk)).1
    split at h3
    · exact ydw_s h3
    · cases h3
  · have h3 := (h2 k hk).2.1
    unfold ydty
    cases hp : parseFieldDescriptor (ydF q k).2.2.1 with
    | none => rw [hp] at h3; cases h3
    | some t => rfl
/-- a class: its name; fields, ints, longs, calls, exceptions, their constructors, objects made, arrays made, statics -/
abbrev ydC := String × ydT (ycFd × ydP) × ydT (Int × ydP) × ydT (Int × ydP) × ydT (Nat × Nat × ydP × ydP × ydP) × ydT (Nat × ydP × ydP) × ydT Nat × ydT (Nat × Nat × ydP × ydP × ydP) × ydT (Nat × ydP × ydP) × ydT (Nat × ydP)
/-- a method: name, what it answers; values that come, table's width, sort of answer, constructor, kind; room; handlers; class; instructions; places of its code's word and of 'initialized' -/
abbrev ydM := MethodName × Option FieldType × (Nat × Nat × Nat × Bool × Nat) × (Nat × Nat) × List (Nat × Nat × Nat × Nat) × Nat × ydT (Instr × Nat) × ydP × ydP
def ydret (n : Nat) (r : Option FieldType) : Bool := match n, r with
  | 0, none => true
  | 1, some .int => true
  | 2, some .boolean => true
  | 3, some .long => true
  | 4, some (.object _) => true
  | 4, some (.array _) => true
  | _, _ => false
theorem ydret_s {n : Nat} {r : Option FieldType} (h : ydret n r = true) : ycrt n r := by
  unfold ydret at h
  split at h <;> first | rfl | exact ⟨_, rfl, Or.inl ⟨_, rfl⟩⟩ | exact ⟨_, rfl, Or.inr ⟨_, rfl⟩⟩ | cases h
/-- a method's bytes, out of its word -/
def ydbytes (h : ydP) : ByteArray := match (ydch h.1)[h.2]? with
  | some (.code _ b _ _) => b
  | some (.codeWith _ b _ _ _) => b
  | _ => ⟨#[]⟩
def ydcw (h : ydP) (y : MethodName) (n : Nat) (r : Option FieldType) (hh : List (Nat × Nat × Nat × Nat)) : Bool := match (ydch h.1)[h.2]? with
  | some (.code y' _ n' r') => decide (y' = y) && (Nat.beq n' n && (decide (r' = r) && hh.isEmpty))
  | some (.codeWith y' _ n' r' hh') => decide (y' = y) && (Nat.beq n' n && (decide (r' = r) && (decide (hh' = hh) && !hh.isEmpty)))
  | _ => false
theorem ydcw_s {h : ydP} {y : MethodName} {n : Nat} {r : Option FieldType} {hh : List (Nat × Nat × Nat × Nat)} (hw : ydcw h y n r hh = true) : (bif hh.isEmpty then Cond.code y (ydbytes h) n r else Cond.codeWith y (ydbytes h) n r hh) ∈ ydTs := by
  unfold ydcw at hw
  unfold ydbytes
  split at hw
  · rename_i y' b' n' r' he
    rw [Bool.and_eq_true, Bool.and_eq_true, Bool.and_eq_true] at hw
    obtain ⟨h1, h2, h3, h4⟩ := hw
    have e1 := of_decide_eq_true h1
    have e2 := Nat.eq_of_beq_eq_true h2
    have e3 := of_decide_eq_true h3
    subst e1 e2 e3
    rw [h4]
    exact List.mem_filter.mpr ⟨ydch_s h.1 _ (List.mem_of_getElem? he), rfl⟩
  · rename_i y' b' n' r' hh' he
    rw [Bool.and_eq_true, Bool.and_eq_true, Bool.and_eq_true, Bool.and_eq_true] at hw
    obtain ⟨h1, h2, h3, h4, h5⟩ := hw
    have e1 := of_decide_eq_true h1
    have e2 := Nat.eq_of_beq_eq_true h2
    have e3 := of_decide_eq_true h3
    have e4 := of_decide_eq_true h4
    subst e1 e2 e3 e4
    have h6 : hh'.isEmpty = false := by
      cases hz : hh'.isEmpty with
      | false => rfl
      | true => rw [hz] at h5; cases h5
    rw [h6]
    exact List.mem_filter.mpr ⟨ydch_s h.1 _ (List.mem_of_getElem? he), rfl⟩
  · cases hw
end YD1
