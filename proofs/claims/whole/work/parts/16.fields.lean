section XJ7
variable {p : Program} {l : Launch} {e : Env} {R : Room} {s : State} {m : MethodId} {args : Array Value} {below : List Frame} {meth : Method} {c : Code} {Q : State → Prop} {cl : List vw_C} {D : va_G} {A : Nat → Prop} {tc : Nat → ClassId} {ad : Nat → Nat} {r : Nat → Int32 × Int64} {nL cells slots : Nat}
variable {cc : ByteArray} {pc len : Nat} {lv : List (Nat × xjV)} {st : List xjV} {g : xjG} {L : List (xjFr × xjG)}
/-- a field: kind of its objects, place, sort of what it holds (0 int, 1 boolean, 2 long, 3 reference), final, of a nest mate -/
abbrev xjFd := Nat × Nat × Nat × Bool × Bool
noncomputable def xjsort (n : Nat) (t : FieldType) : Prop := match n with
  | 0 => t = .int
  | 1 => t = .boolean
  | 2 => t = .long
  | _ => (∃ C, t = .object C) ∨ ∃ u, t = .array u
noncomputable def xjfok (Ts : List Cond) (own : String) (cl : List vw_C) (index : Nat) (x : xjFd) : Prop := ∃ (C : String) (T : u_T) (N : Nat) (ty0 : Nat → FieldType), cl[x.1]? = some (C, T, N) ∧ x.2.1 < N ∧ x.1 < 14 ∧ (∀ w ∈ u_ws C T N, w ∈ Ts) ∧ (∀ k, k < N → parseFieldDescriptor (T k).2.2.1 = some (ty0 k)) ∧ (∀ a, a < N → ∀ b, b < N → a ≠ b → (T a).2.1 ≠ (T b).2.1) ∧
  (x.2.2.2.2 = false → Cond.fieldLink own index (T x.2.1).1 (T x.2.1).2.1 (T x.2.1).2.2.1 ∈ Ts) ∧ (x.2.2.2.2 = true → Cond.fieldLinkNest own index (T x.2.1).1 (T x.2.1).2.1 (T x.2.1).2.2.1 "PictureCodingHouse" ∈ Ts) ∧ (T x.2.1).2.2.2 = x.2.2.2.1 ∧ (x.2.2.2.1 = true → (T x.2.1).1 = own) ∧ xjsort x.2.2.1 (ty0 x.2.1)
noncomputable def xjgetf (x : xjFd) (pc : Nat) (lv : List (Nat × xjV)) (st : List xjV) (g : xjG) : xjR := match st with
  | (2, .num a) :: t => (match xjget 10 g.2.1 a.toNat with
    | (c, n, tr) => bif Nat.blt a.toNat g.2.2.1 && Nat.beq c x.1 && Nat.blt x.2.1 n && Nat.ble n 32768 then (match xjget 15 tr x.2.1 with
      | (0, y) => xjgo (pc + 3) lv ((0, xjnorm g.1 y) :: t) g
      | v => xjgo (pc + 3) lv (v :: t) g) else none)
  | _ => none
noncomputable def xjfit (k : Nat) (v : xjV) : Bool := match k, v with
  | 0, (0, _) => true
  | 1, (0, y) => xjeq y (.num 0) || xjeq y (.num 1)
  | 2, (1, _) => true
  | 3, (2, .num _) => true
  | 3, (3, _) => true
  | _, _ => false
noncomputable def xjputf (x : xjFd) (ini : Bool) (pc : Nat) (lv : List (Nat × xjV)) (st : List xjV) (g : xjG) : xjR := match st with
  | v :: (2, .num a) :: t => (match xjget 10 g.2.1 a.toNat with
    | (c, n, tr) => bif Nat.blt a.toNat g.2.2.1 && Nat.beq c x.1 && Nat.blt x.2.1 n && Nat.ble n 32768 && xjfit x.2.2.1 v && (bif x.2.2.2.1 then ini && !x.2.2.2.2 else true) then
      xjgo (pc + 3) lv t (g.1, xjset 10 g.2.1 a.toNat (c, n, xjset 15 tr x.2.1 v), g.2.2) else none)
  | _ => none
theorem xjfit_s {k : Nat} {v : xjV} {ty : FieldType} (h : xjfit k v = true) (ht : xjsort k ty) : narrow ty (xjcv r ad v) = xjcv r ad v ∧ fits ty (xjcv r ad v) = true := by
  unfold xjfit at h
  split at h
  · change ty = .int at ht
    subst ht
    exact ⟨rfl, rfl⟩
  · change ty = .boolean at ht
    subst ht
    rw [Bool.or_eq_true] at h
    rcases h with h | h
    · rw [xjeq_s h]; exact ⟨by show narrow .boolean (.int (Int32.ofInt 0)) = .int (Int32.ofInt 0); decide, by show fits .boolean (.int (Int32.ofInt 0)) = true; decide⟩
    · rw [xjeq_s h]; exact ⟨by show narrow .boolean (.int (Int32.ofInt 1)) = .int (Int32.ofInt 1); decide, by show fits .boolean (.int (Int32.ofInt 1)) = true; decide⟩
  · change ty = .long at ht
    subst ht
    exact ⟨rfl, rfl⟩
  · change (∃ C, ty = .object C) ∨ ∃ u, ty = .array u at ht
    rcases ht with ⟨C, rfl⟩ | ⟨u, rfl⟩ <;> exact ⟨rfl, rfl⟩
  · change (∃ C, ty = .object C) ∨ ∃ u, ty = .array u at ht
    rcases ht with ⟨C, rfl⟩ | ⟨u, rfl⟩ <;> exact ⟨rfl, rfl⟩
  · cases h
theorem xjws_obj {k ci n : Nat} {t : xjT xjV} (h : xjget 10 g.2.1 k = (ci, n, t)) (hk : k < g.2.2.1) (h14 : ci < 14) : (xjws r ad tc g.2.1 g.2.2.1)[k]? = some (ad k, .inr (ci, (List.range n).map fun j => xjcv r ad (xjget 15 t j))) := by
  rw [xjws_at hk, h, xjte_obj h14]
theorem xjws_obj_set {k ci n j : Nat} {t : xjT xjV} {v : xjV} (hk : k < g.2.2.1) (hn : g.2.2.1 ≤ 1024) (h14 : ci < 14) (hj : j < n) (hn3 : n ≤ 32768) : (xjws r ad tc g.2.1 g.2.2.1).set k (ad k, .inr (ci, ((List.range n).map fun j => xjcv r ad (xjget 15 t j)).set j (xjcv r ad v))) = xjws r ad tc (xjset 10 g.2.1 k (ci, n, xjset 15 t j v)) g.2.2.1 := by
  rw [← xjws_set hk hn, xjte_obj h14, xjcv_map_set hj hn3]

theorem xjgetf_s {own : String} {Ts : List Cond} {index : Nat} {x : xjFd} (hexec : p.tables.exec = Jvm.exec) (hb : c.code = cc) (hown : s.vm.findClass own = some m.cls) (hts : ∀ w ∈ Ts, w.before args s = true) (hK : va_K D cl (xjtys tc) s) (hx : xjfok Ts own cl index x) (hdg : decode cc pc = .ok (.getfield index, 3)) (hk : xjnext p l e R s m args below meth c Q cl D A tc ad r nL cells slots L) (hF : xjH r g.1) (h : xjgetf x pc lv st g = some L) : xjhold p l e R s m args below meth c Q cl D A tc ad r nL cells slots (pc, lv, st) g := by
  obtain ⟨C, T, N, ty0, hcl, hN, h14, hin, hty, hnm, hl1, hl2, hfi, hdc, hso⟩ := hx
  unfold xjgetf at h
  split at h
  · rename_i a t
    split at h
    rename_i c9 n tr hc
    cases hq : Nat.blt a.toNat g.2.2.1 && Nat.beq c9 x.1 && Nat.blt x.2.1 n && Nat.ble n 32768 with
    | false => rw [hq] at h; cases h
    | true =>
      rw [hq] at h
      rw [Bool.and_eq_true, Bool.and_eq_true, Bool.and_eq_true] at hq
      have ha := Nat.ble_eq.mp hq.1.1.1
      have hci := Nat.eq_of_beq_eq_true hq.1.1.2
      have hjn := Nat.ble_eq.mp hq.1.2
      subst hci
      have key : ∀ v2 : xjV, xjcv r ad v2 = xjcv r ad (xjget 15 tr x.2.1) → xjgo (pc + 3) lv (v2 :: t) g = some L → xjhold p l e R s m args below meth c Q cl D A tc ad r nL cells slots (pc, lv, (2, .num a) :: t) g := by
        intro v2 hv2 h
        have hgo := xjgo_s hk hF h
        intro H locs ls hP hD hS hm hn hl
        have h1 := hgo H locs ls hP hD hS hm hn hl
        have he := xjws_obj (r := r) (ad := ad) (tc := tc) hc ha h14
        show W p l e R s m args below meth c H locs _ _ Q (F0 m pc ls (Value.ref (ad a.toNat) :: t.map (xjcv r ad)))
        cases hne : x.2.2.2.2 with
        | false =>
          refine va_get hexec hb hts hin hown hK hP a.toNat he hcl x.2.1 hN (hts _ (hl1 hne)) (fun _ z => z) (v := xjcv r ad v2) ?_ hdg h1
          rw [hv2]
          exact xjcv_map_at hjn
        | true =>
          refine va_getN hexec hb hts hin hown hK hP a.toNat he hcl x.2.1 hN (hts _ (hl2 hne)) (fun _ z => z) (v := xjcv r ad v2) ?_ hdg h1
          rw [hv2]
          exact xjcv_map_at hjn
      change (match xjget 15 tr x.2.1 with | (0, y) => xjgo (pc + 3) lv ((0, xjnorm g.1 y) :: t) g | v => xjgo (pc + 3) lv (v :: t) g) = some L at h
      split at h
      · rename_i y hy
        refine key (0, xjnorm g.1 y) ?_ h
        rw [hy]
        exact congrArg Value.int (xjnorm_s hF y)
      · exact key _ rfl h
  · cases h
theorem xjputf_s {own : String} {Ts : List Cond} {index : Nat} {x : xjFd} {ini : Bool} (hexec : p.tables.exec = Jvm.exec) (hb : c.code = cc) (hown : s.vm.findClass own = some m.cls) (hts : ∀ w ∈ Ts, w.before args s = true) (hK : va_K D cl (xjtys tc) s) (hini : ini = true → meth.name = "<init>") (hx : xjfok Ts own cl index x) (hdg : decode cc pc = .ok (.putfield index, 3)) (hk : xjnext p l e R s m args below meth c Q cl D A tc ad r nL cells slots L) (hF : xjH r g.1) (h : xjputf x ini pc lv st g = some L) : xjhold p l e R s m args below meth c Q cl D A tc ad r nL cells slots (pc, lv, st) g := by
  obtain ⟨C, T, N, ty0, hcl, hN, h14, hin, hty, hnm, hl1, hl2, hfi, hdc, hso⟩ := hx
  unfold xjputf at h
  split at h
  · rename_i v a t
    split at h
    rename_i c9 n tr hc
    cases hq : Nat.blt a.toNat g.2.2.1 && Nat.beq c9 x.1 && Nat.blt x.2.1 n && Nat.ble n 32768 && xjfit x.2.2.1 v && (bif x.2.2.2.1 then ini && !x.2.2.2.2 else true) with
    | false => rw [hq] at h; cases h
    | true =>
      rw [hq] at h
      rw [Bool.and_eq_true, Bool.and_eq_true, Bool.and_eq_true, Bool.and_eq_true, Bool.and_eq_true] at hq
      obtain ⟨⟨⟨⟨⟨q1, q2⟩, q3⟩, q4⟩, q5⟩, q6⟩ := hq
      have ha := Nat.ble_eq.mp q1
      have hci := Nat.eq_of_beq_eq_true q2
      have hjn := Nat.ble_eq.mp q3
      have hn3 := Nat.ble_eq.mp q4
      subst hci
      obtain ⟨hn1, hn2⟩ := xjfit_s (r := r) (ad := ad) q5 hso
      have hgo := xjgo_s (g := (g.1, xjset 10 g.2.1 a.toNat (x.1, n, xjset 15 tr x.2.1 v), g.2.2)) hk hF h
      intro H locs ls hP hD hS hm hn hl
      have he := xjws_obj (r := r) (ad := ad) (tc := tc) hc ha h14
      have es := xjws_obj_set (r := r) (ad := ad) (tc := tc) (t := tr) (v := v) ha hn h14 hjn hn3
      show W p l e R s m args below meth c H locs _ _ Q (F0 m pc ls (xjcv r ad v :: Value.ref (ad a.toNat) :: t.map (xjcv r ad)))
      have kk : ∀ (H1 : Heap) (locs1 : List Loc), va_P D cl ((xjws r ad tc g.2.1 g.2.2.1).set a.toNat (ad a.toNat, .inr (x.1, ((List.range n).map fun j => xjcv r ad (xjget 15 tr j)).set x.2.1 (xjcv r ad v)))) H1 → va_D A ((xjws r ad tc g.2.1 g.2.2.1).set a.toNat (ad a.toNat, .inr (x.1, ((List.range n).map fun j => xjcv r ad (xjget 15 tr j)).set x.2.1 (xjcv r ad v)))) → va_S A s.heap H1 locs1 → W p l e R s m args below meth c H1 locs1 cells slots Q (F0 m (pc + 3) ls (t.map (xjcv r ad))) := by
        intro H1 locs1 hP1 hD1 hS1
        rw [es] at hP1 hD1
        exact hgo H1 locs1 ls hP1 hD1 hS1 hm hn hl
      have hlen : x.2.1 < ((List.range n).map fun j => xjcv r ad (xjget 15 tr j)).length := by rw [List.length_map, List.length_range]; exact hjn
      cases hfin : x.2.2.2.1 with
      | false =>
        cases hne : x.2.2.2.2 with
        | false => exact va_put hexec hb hts hin ty0 hty hnm hown hK hP hD hS a.toNat he hcl x.2.1 hN (hts _ (hl1 hne)) (fun _ z => z) (hfi.trans hfin) (hty _ hN) hn1 hn2 hlen hdg kk
        | true => exact va_putN hexec hb hts hin ty0 hty hnm hown hK hP hD hS a.toNat he hcl x.2.1 hN (hts _ (hl2 hne)) (fun _ z => z) (hfi.trans hfin) (hty _ hN) hn1 hn2 hlen hdg kk
      | true =>
        rw [hfin] at q6
        change (ini && !x.2.2.2.2) = true at q6
        rw [Bool.and_eq_true] at q6
        have hne : x.2.2.2.2 = false := by
          have := q6.2
          cases hz : x.2.2.2.2 with
          | false => rfl
          | true => rw [hz] at this; cases this
        exact va_putF hexec hb hts hin ty0 hty hnm hown hK hP hD hS a.toNat he hcl x.2.1 hN (hts _ (hl1 hne)) (fun _ z => z) (hfi.trans hfin) (hini q6.1) (hdc hfin) (hty _ hN) hn1 hn2 hlen hdg kk
  · cases h
end XJ7
