section XJ10
/-- how it ends (0 nothing, 1 a value, k + 2 the exception k), the value, cells and slots made on the way, the state then -/
abbrev xjLf := Nat × xjV × Nat × Nat × xjG
/-- instructions, fields, ints, longs, calls (method, sort: 0 static, 1 by the object's class, 2 constructor, 3 static of a nest mate, 4 constructor of a nest mate), methods (arguments, width of its table of values, what it answers: 0 nothing, 1 int, 2 boolean, 3 long, 4 reference; constructor), handlers, exceptions that are made (number, supers), their constructors -/
abbrev xjTb := (Nat → Nat → Option (Instr × Nat)) × (Nat → Nat → Option xjFd) × (Nat → Nat → Option Int) × (Nat → Nat → Option Int) × (Nat → Nat → Option (Nat × Nat)) × (Nat → Nat × Nat × Nat × Bool) × (Nat → List (Nat × Nat × Nat × Nat)) × (Nat → Nat → Option (Nat × Nat)) × (Nat → Nat → Option Nat)
abbrev xjP (T : xjTb) := T.1
abbrev xjFD (T : xjTb) := T.2.1
abbrev xjKC (T : xjTb) := T.2.2.1
abbrev xjKL (T : xjTb) := T.2.2.2.1
abbrev xjMC (T : xjTb) := T.2.2.2.2.1
abbrev xjMI (T : xjTb) := T.2.2.2.2.2.1
abbrev xjHD (T : xjTb) := T.2.2.2.2.2.2.1
abbrev xjNX (T : xjTb) := T.2.2.2.2.2.2.2.1
abbrev xjNI (T : xjTb) := T.2.2.2.2.2.2.2.2
noncomputable def xjseq {α β : Type} (f : α → Option (List β)) : List α → Option (List β)
  | [] => some []
  | a :: l => (match f a with
    | none => none
    | some x => (match xjseq f l with
      | none => none
      | some y => some (x ++ y)))
theorem xjseq_m {α β : Type} {f : α → Option (List β)} : ∀ {l : List α} {y : List β}, xjseq f l = some y → ∀ a ∈ l, ∃ x, f a = some x ∧ ∀ b ∈ x, b ∈ y := by
  intro l
  induction l with
  | nil => intro y _ a ha; cases ha
  | cons a l ih =>
    intro y h b hb
    unfold xjseq at h
    split at h
    · cases h
    · rename_i x hx
      split at h
      · cases h
      · rename_i z hz
        cases h
        rcases List.mem_cons.mp hb with e | e
        · subst e
          exact ⟨x, hx, fun c hc => List.mem_append_left _ hc⟩
        · obtain ⟨w, h1, h2⟩ := ih hz b e
          exact ⟨w, h1, fun c hc => List.mem_append_right _ (h2 c hc)⟩
noncomputable def xjmore (mc ms : Nat) (u : xjLf) : xjLf := (u.1, u.2.1, mc + u.2.2.1, ms + u.2.2.2.1, u.2.2.2.2)
noncomputable def xjmaxc : List xjLf → Nat
  | [] => 0
  | u :: l => bif Nat.ble u.2.2.1 (xjmaxc l) then xjmaxc l else u.2.2.1
noncomputable def xjmaxs : List xjLf → Nat
  | [] => 0
  | u :: l => bif Nat.ble u.2.2.2.1 (xjmaxs l) then xjmaxs l else u.2.2.2.1
theorem xjmaxc_m : ∀ {l : List xjLf} {u : xjLf}, u ∈ l → u.2.2.1 ≤ xjmaxc l := by
  intro l
  induction l with
  | nil => intro u h; cases h
  | cons v l ih =>
    intro u h
    show _ ≤ (bif Nat.ble v.2.2.1 (xjmaxc l) then xjmaxc l else v.2.2.1)
    cases hb : Nat.ble v.2.2.1 (xjmaxc l) with
    | true =>
      rcases List.mem_cons.mp h with e | e
      · rw [e]; exact Nat.ble_eq.mp hb
      · exact ih e
    | false =>
      have h9 : ¬ v.2.2.1 ≤ xjmaxc l := fun z => by rw [Nat.ble_eq.mpr z] at hb; cases hb
      rcases List.mem_cons.mp h with e | e
      · rw [e]; exact Nat.le_refl _
      · have := ih e
        show _ ≤ v.2.2.1
        omega
theorem xjmaxs_m : ∀ {l : List xjLf} {u : xjLf}, u ∈ l → u.2.2.2.1 ≤ xjmaxs l := by
  intro l
  induction l with
  | nil => intro u h; cases h
  | cons v l ih =>
    intro u h
    show _ ≤ (bif Nat.ble v.2.2.2.1 (xjmaxs l) then xjmaxs l else v.2.2.2.1)
    cases hb : Nat.ble v.2.2.2.1 (xjmaxs l) with
    | true =>
      rcases List.mem_cons.mp h with e | e
      · rw [e]; exact Nat.ble_eq.mp hb
      · exact ih e
    | false =>
      have h9 : ¬ v.2.2.2.1 ≤ xjmaxs l := fun z => by rw [Nat.ble_eq.mpr z] at hb; cases hb
      rcases List.mem_cons.mp h with e | e
      · rw [e]; exact Nat.le_refl _
      · have := ih e
        show _ ≤ v.2.2.2.1
        omega
noncomputable def xjargs : Nat → List xjV → List (Nat × xjV)
  | _, [] => []
  | i, v :: vs => (i, v) :: xjargs (bif Nat.beq v.1 1 then i + 2 else i + 1) vs
theorem xjargs_s (r : Nat → Int32 × Int64) (ad : Nat → Nat) : ∀ (vs : List xjV) (i : Nat), xjlv r ad (xjargs i vs) = lv_args i (vs.map (xjcv r ad)) := by
  intro vs
  induction vs with
  | nil => intro i; rfl
  | cons v vs ih =>
    intro i
    show (i, xjcv r ad v) :: xjlv r ad (xjargs (bif Nat.beq v.1 1 then i + 2 else i + 1) vs) = (i, xjcv r ad v) :: lv_args (if (xjcv r ad v).category = 2 then i + 2 else i + 1) (vs.map (xjcv r ad))
    rw [ih]
    have := xjcat r ad v
    cases hb : Nat.beq v.1 1 with
    | true => rw [hb] at this; rw [if_pos (by simpa using this)]; rfl
    | false => rw [hb] at this; rw [if_neg (by simpa using this)]; rfl
noncomputable def xjwide : List xjV → Nat
  | [] => 0
  | v :: vs => (bif Nat.beq v.1 1 then 2 else 1) + xjwide vs
theorem xjwide_s (r : Nat → Int32 × Int64) (ad : Nat → Nat) : ∀ vs : List xjV, (lg_sl (vs.map (xjcv r ad))).length = xjwide vs := by
  intro vs
  induction vs with
  | nil => rfl
  | cons v vs ih =>
    show (List.flatMap (fun v => if v.category = 2 then [Slot.val v, Slot.second] else [Slot.val v]) (xjcv r ad v :: vs.map (xjcv r ad))).length = (bif Nat.beq v.1 1 then 2 else 1) + xjwide vs
    rw [List.flatMap_cons, List.length_append]
    have := xjcat r ad v
    have ih : (List.flatMap (fun v => if v.category = 2 then [Slot.val v, Slot.second] else [Slot.val v]) (vs.map (xjcv r ad))).length = xjwide vs := ih
    rw [ih]
    cases hb : Nat.beq v.1 1 with
    | true => rw [hb] at this; rw [if_pos (by simpa using this)]; rfl
    | false => rw [hb] at this; rw [if_neg (by simpa using this)]; rfl
noncomputable def xjret (ins : Instr) (ret : Nat) (st : List xjV) (g : xjG) : Option xjLf := match ins, st with
  | .return_, [] => bif Nat.beq ret 0 then some (0, (3, .num 0), 0, 0, g) else none
  | .ireturn, [(0, e)] => bif Nat.beq ret 1 || (Nat.beq ret 2 && xjfit 1 (0, e)) then some (1, (0, e), 0, 0, g) else none
  | .lreturn, [(1, e)] => bif Nat.beq ret 3 then some (1, (1, e), 0, 0, g) else none
  | .areturn, [(2, .num k)] => bif Nat.beq ret 4 then some (1, (2, .num k), 0, 0, g) else none
  | _, _ => none
/-- the handler of an exception at a place: none covers it, or the first that covers is one of the same name -/
noncomputable def xjhand (e pc : Nat) : List (Nat × Nat × Nat × Nat) → Option (Option Nat)
  | [] => some none
  | q :: l => bif Nat.ble q.1 pc && Nat.blt pc q.2.1 then (bif Nat.beq q.2.2.2 e then some (some q.2.2.1) else (match xjhand e pc l with | some (some h) => some (some h) | _ => none)) else xjhand e pc l
noncomputable def xjcats : List xjV → Nat
  | [] => 0
  | v :: vs => (bif Nat.beq v.1 1 then 2 else 1) + xjcats vs
/-- the table of values without the place i -/
noncomputable def xjdrop (lv : List (Nat × xjV)) (i : Nat) : List (Nat × xjV) := lv.filter (fun q => !(Nat.beq q.1 i) && !(Nat.beq (q.1 + 1) i && Nat.beq q.2.1 1))
noncomputable def xjback (T : xjTb) (run : Nat → Nat → Nat → xjFr → xjG → Option (List xjLf)) (mid f rl pc : Nat) (lv : List (Nat × xjV)) (rest : List xjV) (mc ret : Nat) (thr : Bool) (u : xjLf) : Option (List xjLf) :=
  let g2 : xjG := (u.2.2.2.2.1, u.2.2.2.2.2.1, u.2.2.2.2.2.2.1, u.2.2.2.2.2.2.2 && Nat.beq u.2.2.1 mc)
  match u.1 with
  | 0 => bif Nat.beq ret 0 then run mid f rl (pc + 3, lv, rest) g2 else none
  | 1 => bif Nat.beq ret 0 then none else run mid f rl (pc + 3, lv, u.2.1 :: rest) g2
  | e + 2 => bif thr then (match xjhand e pc (xjHD T mid) with
      | none => none
      | some none => some [(e + 2, (3, .num 0), 0, 0, g2)]
      | some (some h) => (match xjP T mid h with
        | some (.astore_n k, 1) => bif Nat.blt k (xjMI T mid).2.1 then run mid f rl (h + 1, xjdrop lv k, []) g2 else none
        | some (.astore k, 2) => bif Nat.blt k (xjMI T mid).2.1 then run mid f rl (h + 2, xjdrop lv k, []) g2 else none
        | _ => none)) else none
noncomputable def xjcall (T : xjTb) (run : Nat → Nat → Nat → xjFr → xjG → Option (List xjLf)) (mid f rl i kind : Nat) (fr : xjFr) (g : xjG) : Option (List xjLf) :=
  match xjMC T mid i with
  | none => none
  | some (cm, mode) =>
    match xjMI T cm with
    | (na, ml, ret, _) =>
      let As := (fr.2.2.take na).reverse
      let rest := fr.2.2.drop na
      bif Nat.beq As.length na && Nat.ble (xjwide As) ml && Nat.ble (xjcats rest) 8 && Nat.blt 0 f && Nat.ble (19 + ml) rl && (bif Nat.beq kind 0 then Nat.beq mode 0 || Nat.beq mode 3 else bif Nat.beq kind 1 then Nat.beq mode 1 else Nat.beq mode 2 || Nat.beq mode 4) then
        (match run cm (f - 1) (rl - (19 + ml)) (0, xjargs 0 As, []) g with
        | none => none
        | some Us => (match xjseq (xjback T run mid f rl fr.1 fr.2.1 rest (xjmaxc Us) ret (Nat.ble mode 1)) Us with
          | none => none
          | some Ls => some (Ls.map (xjmore (xjmaxc Us) (xjmaxs Us)))))
      else none
noncomputable def xjthrow (T : xjTb) (mid f rl i : Nat) (fr : xjFr) (g : xjG) : Option (List xjLf) :=
  match xjNX T mid i, xjP T mid (fr.1 + 3), xjP T mid (fr.1 + 4), xjP T mid (fr.1 + 7) with
  | some (e, n), some (.dup, 1), some (.invokespecial j, 3), some (.athrow, 1) =>
    bif (match xjNI T mid j with | some e2 => Nat.beq e e2 | none => false) && (xjHD T mid).isEmpty && Nat.blt (n + 3) f && Nat.ble (xjcats fr.2.2 + (13 * (n + 1) + 42)) rl then
      some [(e + 2, (3, .num 0), 1, 6, (g.1, g.2.1, g.2.2.1, false))] else none
  | _, _, _, _ => none
noncomputable def xjbody (T : xjTb) (run : Nat → Nat → Nat → xjFr → xjG → Option (List xjLf)) (mid f rl : Nat) (fr : xjFr) (g : xjG) : Option (List xjLf) :=
  match xjP T mid fr.1 with
  | none => none
  | some (ins, len) =>
    match ins with
    | .return_ => (match xjret .return_ (xjMI T mid).2.2.1 fr.2.2 g with | some u => bif Nat.beq len 1 then some [u] else none | none => none)
    | .ireturn => (match xjret .ireturn (xjMI T mid).2.2.1 fr.2.2 g with | some u => bif Nat.beq len 1 then some [u] else none | none => none)
    | .lreturn => (match xjret .lreturn (xjMI T mid).2.2.1 fr.2.2 g with | some u => bif Nat.beq len 1 then some [u] else none | none => none)
    | .areturn => (match xjret .areturn (xjMI T mid).2.2.1 fr.2.2 g with | some u => bif Nat.beq len 1 then some [u] else none | none => none)
    | .invokestatic i => bif Nat.beq len 3 then xjcall T run mid f rl i 0 fr g else none
    | .invokevirtual i => bif Nat.beq len 3 then xjcall T run mid f rl i 1 fr g else none
    | .invokespecial i => bif Nat.beq len 3 then xjcall T run mid f rl i 2 fr g else none
    | .new i => bif Nat.beq len 3 then xjthrow T mid f rl i fr g else none
    | ins => bif xjisw ins || Nat.beq len (xjlen ins) then (match xjstep (xjMI T mid).2.1 (xjMI T mid).2.2.2 (xjFD T mid) (xjKC T mid) (xjKL T mid) ins fr.1 fr.2.1 fr.2.2 g with
        | some L => xjseq (fun q => run mid f rl q.1 q.2) L
        | none => none) else none
noncomputable def xjrun (T : xjTb) (k : Nat) : Nat → Nat → Nat → xjFr → xjG → Option (List xjLf) :=
  Nat.rec (motive := fun _ => Nat → Nat → Nat → xjFr → xjG → Option (List xjLf)) (fun _ _ _ _ _ => none) (fun _ ih mid f rl fr g => xjbody T ih mid f rl fr g) k
theorem xjrun_0 (T : xjTb) (mid f rl : Nat) (fr : xjFr) (g : xjG) : xjrun T 0 mid f rl fr g = none := rfl
theorem xjrun_n (T : xjTb) (k mid f rl : Nat) (fr : xjFr) (g : xjG) : xjrun T (k + 1) mid f rl fr g = xjbody T (xjrun T k) mid f rl fr g := rfl
end XJ10
