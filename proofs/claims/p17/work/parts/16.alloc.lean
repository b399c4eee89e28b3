section YC7
variable {p : Program} {l : Launch} {e : Env} {R : Room} {s : State} {m : MethodId} {args : Array Value} {below : List Frame} {meth : Method} {c : Code} {Q : State → Prop} {cl : List vw_C} {D : va_G} {A : Nat → Prop} {tc : Nat → ClassId} {ad oa : Nat → Nat} {nL cells slots : Nat}
variable {cc : ByteArray} {pc len : Nat} {lv : List (Nat × ycV)} {st : List ycV} {g g2 : ycH} {fr2 : ycF}
/-- a new cell -/
def ycmk (g : ycH) (x : ycC) : ycH := (ycup g.1 g.2.1 x, g.2.1 + 1, true)
theorem ycsz {H : Heap} {T : State} {locs : List Loc} (X : Stand p l e R s m args below meth c T locs cells slots) (hT : T.heap = H) {n : Nat} (hm : n = s.heap.size + cells ∧ s.heap.size + cells ≤ H.size) : H.size = n := by
  have h1 := X.heapSize
  rw [hT] at h1
  omega
theorem ycput_new {H H1 : Heap} {locs : List Loc} {x : ycC} {h : Nat} (hP : va_P D cl (ycws ad oa tc g.1 g.2.1) H) (hD : va_D A (ycws ad oa tc g.1 g.2.1)) (hS : va_S A s.heap H locs) (hA : ∀ q, s.heap.size ≤ q → A q) (hh : H.size = h) (had : ad g.2.1 = h)
    (e1 : va_at D cl (h, ycte ad oa tc x) H1) (z1 : H1.size = h + 1) (o1 : ∀ q, q < h → H1[q]? = H[q]?) :
    va_P D cl (ycws ad oa tc (ycmk g x).1 (ycmk g x).2.1) H1 ∧ va_D A (ycws ad oa tc (ycmk g x).1 (ycmk g x).2.1) ∧ va_S A s.heap H1 locs := by
  subst hh
  have hk : ∀ (k : Nat) (y : Nat × va_E), (ycws ad oa tc g.1 g.2.1)[k]? = some y → H1[y.1]? = H[y.1]? := fun k y hy => o1 y.1 ((hP k y hy).lt)
  have e2 : ycws ad oa tc (ycmk g x).1 (ycmk g x).2.1 = ycws ad oa tc g.1 g.2.1 ++ [(H.size, ycte ad oa tc x)] := by
    rw [← had]
    exact ycws_push.symm
  rw [e2]
  refine ⟨(hP.kept hk).app (fun k y hy => ?_), hD.push hP rfl (hA _ hS.1), Nat.le_trans hS.1 (by omega), fun q a b => (o1 q (Nat.lt_of_lt_of_le a hS.1)).trans (hS.2.1 q a b), hS.2.2⟩
  have hz : k < 1 := (List.getElem?_eq_some_iff.mp hy).1
  rw [show k = 0 by omega] at hy
  cases hy
  exact e1
theorem ycnew_s {own : String} {Ts : List Cond} {index ci : Nat} {C : String} {T : u_T} {N : Nat} {df : Nat → ycV} (ty : Nat → FieldType) (hexec : p.tables.exec = Jvm.exec) (hb : c.code = cc) (hown : s.vm.findClass own = some m.cls) (hts : ∀ w ∈ Ts, w.before args s = true) (hK : va_K D cl (yctys tc) s) (hA : ∀ q, s.heap.size ≤ q → A q) (hadd : ∀ k, ad (k + 1) = ad k + 1)
    (hcl : cl[ci]? = some (C, T, N)) (h14 : ci < 14) (hin : ∀ w ∈ u_ws C T N, w ∈ Ts) (hty : ∀ k, k < N → parseFieldDescriptor (T k).2.2.1 = some (ty k)) (hlink : Cond.classLink own index C ∈ Ts) (hinst : Cond.instantiable C N ∈ Ts) (hini : Cond.initialized C ∈ Ts)
    (hdf : ∀ j, j < N → defaultValue (ty j) = ycv ad oa (df j)) (hcells : cells + 1 ≤ R.cells) (hslots : slots + N ≤ R.slots) (hg : g.2.2 = true) (hdg : decode cc pc = .ok (.new index, 3))
    (hk : ychold p l e R s m args below meth c Q cl D A tc ad oa nL (cells + 1) (slots + N) (pc + 3, lv, (2, (g.2.1 : Int)) :: st) (ycmk g (ci, N, df))) : ychold p l e R s m args below meth c Q cl D A tc ad oa nL cells slots (pc, lv, st) g := by
  intro H locs ls hP hD hS hm hl T9 hT X
  have hm := hm hg
  have hsz := ycsz X hT hm
  have hKn := hK.1 ci _ hcl
  refine (W.newcK hexec hb hown (hts _ hlink) (hts _ hinst) (hts _ hini) rfl hdg hcells hslots hKn.2.1 hsz (fun H1 kC hkC e1 z1 o1 => ?_) : W p l e R s m args below meth c H locs cells slots Q (F0 m pc ls (st.map (ycv ad oa)))) T9 hT X
  have e1' : va_at D cl (ad g.2.1, ycte ad oa tc (ci, N, df)) H1 := by
    rw [ycte_obj h14]
    refine ⟨_, hcl, (u_born ty hts hin hKn hkC e1 hty).to (fun j hj => ?_)⟩
    rw [hdf j hj]
    unfold vp_V
    rw [List.getD_eq_getElem?_getD, ycmap_at hj]
    rfl
  obtain ⟨hP1, hD1, hS1⟩ := ycput_new (x := (ci, N, df)) hP hD hS hA hsz rfl e1' z1 o1
  have h1 := hk H1 locs ls hP1 hD1 hS1 (fun _ => ⟨by show ad (g.2.1 + 1) = _; rw [hadd]; omega, by omega⟩) hl
  have e3 : ycv ad oa (2, (g.2.1 : Int)) = .ref (ad g.2.1) := by
    show Value.ref (ad (g.2.1 : Int).toNat) = _
    rw [Int.toNat_natCast]
  rw [List.map_cons, e3] at h1
  exact h1
def ycak : ArrayType → Option Nat
  | .int => some 14
  | .long => some 15
  | .boolean => some 16
  | _ => none
def ycadf (kind : Nat) : ycV := bif Nat.beq kind 15 then (1, 0) else bif Nat.ble 17 kind then (3, 0) else (0, 0)
theorem ycdfi (n : Nat) (cA : ClassId) : arrV cA n (fun _ => defaultValue .int) = vp_cell cA (n, ycrow ad 14 (fun _ => ycadf 14)) := rfl
theorem ycdfz (n : Nat) (cA : ClassId) : arrV cA n (fun _ => defaultValue .boolean) = vp_cell cA (n, ycrow ad 16 (fun _ => ycadf 16)) := rfl
theorem ycdfl (n : Nat) (cA : ClassId) : arrV cA n (fun _ => defaultValue .long) = vp_cell cA (n, ycrow ad 15 (fun _ => ycadf 15)) := rfl
theorem ycdfr (kind n : Nat) (h : 17 ≤ kind) (cA : ClassId) : arrV cA n (fun _ => .null) = vp_cell cA (n, ycrow ad kind (fun _ => ycadf kind)) := by
  rw [ycrow_r h, vp_cell_q]
  have : ycadf kind = (3, 0) := by
    unfold ycadf
    rw [ycbne (show kind ≠ 15 by omega), Nat.ble_eq.mpr h]
    rfl
  rw [this]
  rfl
theorem ycprim {ty : FieldType} {cA cB : ClassId} (h : va_RA s cB ty) (hp : ty = .int ∨ ty = .long ∨ ty = .boolean ∨ ∃ t, ty = .array t) (h2 : s.vm.findClass ("[" ++ ty.toString) = some cA) : cA = cB := by
  have h3 : s.vm.findClass ("[" ++ ty.toString) = some cB := by
    rcases hp with rfl | rfl | rfl | ⟨t, rfl⟩ <;> exact h
  exact Option.some.inj (h2.symm.trans h3)
/-- a length: not below 0, not too great -/
def ycln (k : Int) : Bool := decide (0 ≤ y32 k) && decide (y32 k ≤ 65536)
theorem ycln_s {k : Int} (h : ycln k = true) : ¬ Int32.ofInt k < 0 ∧ (Int32.ofInt k).toNatClampNeg = (y32 k).toNat ∧ (y32 k).toNat ≤ 65536 := by
  unfold ycln at h
  rw [Bool.and_eq_true, decide_eq_true_iff, decide_eq_true_iff] at h
  have e : (Int32.ofInt k).toInt = y32 k := rfl
  refine ⟨fun z => ?_, ?_, by omega⟩
  · rw [Int32.lt_iff_toInt_lt, e] at z
    have : (0 : Int32).toInt = 0 := rfl
    omega
  · show (Int32.ofInt k).toInt.toNat = _
    rw [e]
theorem ycnewa_s {atype : ArrayType} {kind : Nat} {n : Int} (hexec : p.tables.exec = Jvm.exec) (hb : c.code = cc) (hK : va_K D cl (yctys tc) s) (hA : ∀ q, s.heap.size ≤ q → A q) (hadd : ∀ k, ad (k + 1) = ad k + 1)
    (hkind : ycak atype = some kind) (harr : (Cond.arrayClass (newarray.typeOf atype)).before args s = true) (hn : ycln n = true) (hcells : cells + 1 ≤ R.cells) (hslots : slots + (y32 n).toNat ≤ R.slots) (hg : g.2.2 = true) (hdg : decode cc pc = .ok (.newarray atype, 2))
    (hk : ychold p l e R s m args below meth c Q cl D A tc ad oa nL (cells + 1) (slots + (y32 n).toNat) (pc + 2, lv, (2, (g.2.1 : Int)) :: st) (ycmk g (kind, (y32 n).toNat, fun _ => ycadf kind))) : ychold p l e R s m args below meth c Q cl D A tc ad oa nL cells slots (pc, lv, (0, n) :: st) g := by
  obtain ⟨n1, n2, n3⟩ := ycln_s hn
  intro H locs ls hP hD hS hm hl T9 hT X
  have hm := hm hg
  have hsz := ycsz X hT hm
  have hby : (y32 n).toNat * componentBytes (newarray.typeOf atype) ≤ 536870912 := by
    have : componentBytes (newarray.typeOf atype) ≤ 8 := by cases atype <;> decide
    have := Nat.mul_le_mul n3 this
    omega
  refine (va_newaK (h := ad g.2.1) hexec hb harr rfl hdg rfl n1 n2 hby hcells hslots hsz (fun H1 cA e1 z1 o1 hAr hNm => ?_) : W p l e R s m args below meth c H locs cells slots Q (F0 m pc ls (Value.int (Int32.ofInt n) :: st.map (ycv ad oa)))) T9 hT X
  have e1' : va_at D cl (ad g.2.1, ycte ad oa tc (kind, (y32 n).toNat, fun _ => ycadf kind)) H1 := by
    show va_at D cl (ad g.2.1, _) H1
    cases atype <;> cases hkind
    · have ec : cA = tc 16 := ycprim (hK.2 2 _ rfl).2 (Or.inr (Or.inr (Or.inl rfl))) hNm
      rw [ycte_arr (by decide), ← ec]
      exact e1.trans (congrArg some (ycdfz _ _))
    · have ec : cA = tc 14 := ycprim (hK.2 0 _ rfl).2 (Or.inl rfl) hNm
      rw [ycte_arr (by decide), ← ec]
      exact e1.trans (congrArg some (ycdfi _ _))
    · have ec : cA = tc 15 := ycprim (hK.2 1 _ rfl).2 (Or.inr (Or.inl rfl)) hNm
      rw [ycte_arr (by decide), ← ec]
      exact e1.trans (congrArg some (ycdfl _ _))
  obtain ⟨hP1, hD1, hS1⟩ := ycput_new (x := (kind, (y32 n).toNat, fun _ => ycadf kind)) hP hD hS hA hsz rfl e1' z1 o1
  have h1 := hk H1 locs ls hP1 hD1 hS1 (fun _ => ⟨by show ad (g.2.1 + 1) = _; rw [hadd]; omega, by omega⟩) hl
  have e3 : ycv ad oa (2, (g.2.1 : Int)) = .ref (ad g.2.1) := by
    show Value.ref (ad (g.2.1 : Int).toNat) = _
    rw [Int.toNat_natCast]
  rw [List.map_cons, e3] at h1
  exact h1
/-- the class of the objects in an array of objects, by its kind -/
def yckC (kind : Nat) : String := bif Nat.beq kind 17 then "PictureCodingHouse$ByteRow" else "PictureCodingHouse$Grid"
theorem ycanew_s {own : String} {Ts : List Cond} {index kind : Nat} {n : Int} (hexec : p.tables.exec = Jvm.exec) (hb : c.code = cc) (hown : s.vm.findClass own = some m.cls) (hts : ∀ w ∈ Ts, w.before args s = true) (hK : va_K D cl (yctys tc) s) (hA : ∀ q, s.heap.size ≤ q → A q) (hadd : ∀ k, ad (k + 1) = ad k + 1)
    (hkind : kind = 17 ∨ kind = 18) (hlink : Cond.classLink own index (yckC kind) ∈ Ts) (hover : Cond.arrayOver (.object (yckC kind)) ∈ Ts) (hn : ycln n = true) (hcells : cells + 1 ≤ R.cells) (hslots : slots + (y32 n).toNat ≤ R.slots) (hg : g.2.2 = true) (hdg : decode cc pc = .ok (.anewarray index, 3))
    (hk : ychold p l e R s m args below meth c Q cl D A tc ad oa nL (cells + 1) (slots + (y32 n).toNat) (pc + 3, lv, (2, (g.2.1 : Int)) :: st) (ycmk g (kind, (y32 n).toNat, fun _ => ycadf kind))) : ychold p l e R s m args below meth c Q cl D A tc ad oa nL cells slots (pc, lv, (0, n) :: st) g := by
  obtain ⟨n1, n2, n3⟩ := ycln_s hn
  intro H locs ls hP hD hS hm hl T9 hT X
  have hm := hm hg
  have hsz := ycsz X hT hm
  refine (W.anew hexec hb hown (hts _ hlink) (hts _ hover) rfl hdg rfl n1 (by rw [n2]; omega) hcells (by rw [n2]; exact hslots) (fun cA kA comp h1 h2 h3 h4 => ?_) : W p l e R s m args below meth c H locs cells slots Q (F0 m pc ls (Value.int (Int32.ofInt n) :: st.map (ycv ad oa)))) T9 hT X
  have ec : cA = tc kind := by
    rcases hkind with rfl | rfl
    · obtain ⟨kA', comp', -, -, -, f4⟩ := (hK.2 3 _ rfl).2
      exact Option.some.inj (h1.symm.trans f4)
    · obtain ⟨kA', comp', -, -, -, f4⟩ := (hK.2 4 _ rfl).2
      exact Option.some.inj (h1.symm.trans f4)
  subst ec
  rw [n2]
  have h17 : 17 ≤ kind := by omega
  have e1' : va_at D cl (ad g.2.1, ycte ad oa tc (kind, (y32 n).toNat, fun _ => ycadf kind)) (H.push { cls := tc kind, slots := Array.replicate (y32 n).toNat .null, vm := .none }) := by
    rw [ycte_arr (by omega)]
    show (H.push _)[ad g.2.1]? = some (vp_cell _ _)
    rw [← ycdfr kind _ h17, ← hsz, Array.getElem?_push_size, arrV_new]
  obtain ⟨hP1, hD1, hS1⟩ := ycput_new (x := (kind, (y32 n).toNat, fun _ => ycadf kind)) hP hD hS hA hsz rfl e1' (by rw [Array.size_push, hsz]) (fun q hq => by rw [Array.getElem?_push_lt (by omega)]; exact (Array.getElem?_eq_getElem (by omega)).symm)
  have h1 := hk _ locs ls hP1 hD1 hS1 (fun _ => ⟨by show ad (g.2.1 + 1) = _; rw [hadd]; omega, by rw [Array.size_push]; omega⟩) hl
  have e3 : ycv ad oa (2, (g.2.1 : Int)) = .ref (ad g.2.1) := by
    show Value.ref (ad (g.2.1 : Int).toNat) = _
    rw [Int.toNat_natCast]
  rw [List.map_cons, e3] at h1
  rw [hsz]
  exact h1
end YC7
