section YC6
variable {p : Program} {l : Launch} {e : Env} {R : Room} {s : State} {m : MethodId} {args : Array Value} {below : List Frame} {meth : Method} {c : Code} {Q : State → Prop} {cl : List vw_C} {D : va_G} {A : Nat → Prop} {tc : Nat → ClassId} {ad oa : Nat → Nat} {nL cells slots : Nat}
variable {cc : ByteArray} {pc len : Nat} {lv : List (Nat × ycV)} {st : List ycV} {g g2 : ycH} {fr2 : ycF}
theorem yc_add (a b : Int) : Int32.ofInt (y32 (a + b)) = Int32.ofInt a + Int32.ofInt b := by rw [y32_s, Int32.ofInt_add]
theorem yc_sub (a b : Int) : Int32.ofInt (y32 (a - b)) = Int32.ofInt a - Int32.ofInt b := by rw [y32_s, Int32.ofInt_sub]
theorem yc_mul (a b : Int) : Int32.ofInt (y32 (a * b)) = Int32.ofInt a * Int32.ofInt b := by rw [y32_s, Int32.ofInt_mul]
theorem ycI_s (k : Nat) (a b : Int) : Int32.ofInt (ycI k a b) = ycb k (Int32.ofInt a) (Int32.ofInt b) := Int32.ofInt_toInt _
theorem ycJ_s (k : Nat) (a b : Int) : Int64.ofInt (ycJ k a b) = ycbl k (Int64.ofInt a) (Int64.ofInt b) := Int64.ofInt_toInt _
theorem ycJI_s (k : Nat) (a b : Int) : Int64.ofInt (ycJI k a b) = ycsl k (Int64.ofInt a) (Int32.ofInt b) := Int64.ofInt_toInt _
theorem ycinc_s {i : Nat} {k : Int} (hexec : p.tables.exec = Jvm.exec) (hb : c.code = cc) (hdg : decode cc pc = .ok (.iinc i k, 3)) (h : ycinc nL pc i k lv st g = some (fr2, g2)) (hk : ychold p l e R s m args below meth c Q cl D A tc ad oa nL cells slots fr2 g2) : ychold p l e R s m args below meth c Q cl D A tc ad oa nL cells slots (pc, lv, st) g := by
  unfold ycinc at h
  split at h
  · rename_i x hg
    cases hq : Nat.blt i nL with
    | false => rw [hq] at h; cases h
    | true =>
      rw [hq] at h
      have hgo := ycgo_s h hk
      intro H locs ls hP hD hS hm hl
      obtain ⟨n9, h9⟩ := List.getElem?_of_mem (show (i, ycv ad oa (0, x)) ∈ yclv ad oa lv from List.mem_map.mpr ⟨(i, (0, x)), yclget_m hg, rfl⟩)
      refine lv_iinc (k := n9) (x := Int32.ofInt x) (v := Int32.ofInt (y32 (x + k))) hexec hb hdg hl h9 (yc_add _ _).symm (Nat.ble_eq.mp hq) (ycst1_s ad oa lv i (0, y32 (x + k))) (fun ls' hl' => ?_)
      exact hgo H locs ls' hP hD hS hm hl'
  · cases h
theorem ycdiv_s {k : Nat} {f2 : Int32 → Int32 → Int32} (hf2 : ycb k = f2)
    (hrow : ∀ (H : Heap) (locs : List Loc) (ls : Array Slot) (rest : List Value) (x y : Int32), ¬ y = 0 → W p l e R s m args below meth c H locs cells slots Q (F0 m (pc + 1) ls (.int (f2 x y) :: rest)) → W p l e R s m args below meth c H locs cells slots Q (F0 m (pc) ls (.int y :: .int x :: rest)))
    (h : ycdiv k pc lv st g = some (fr2, g2)) (hk : ychold p l e R s m args below meth c Q cl D A tc ad oa nL cells slots fr2 g2) : ychold p l e R s m args below meth c Q cl D A tc ad oa nL cells slots (pc, lv, st) g := by
  unfold ycdiv at h
  split at h
  · rename_i b a t
    cases hq : decide (y32 b = 0) with
    | true => rw [hq] at h; cases h
    | false =>
      rw [hq] at h
      have hgo := ycgo_s h hk
      intro H locs ls hP hD hS hm hl
      refine hrow H locs ls _ _ _ (fun z => of_decide_eq_false hq ?_) ?_
      · show (Int32.ofInt b).toInt = 0
        rw [z]; rfl
      · rw [← hf2, ← ycI_s]
        exact hgo H locs ls hP hD hS hm hl
  · cases h
theorem ycldiv_s {k : Nat} {f2 : Int64 → Int64 → Int64} (hf2 : ycbl k = f2)
    (hrow : ∀ (H : Heap) (locs : List Loc) (ls : Array Slot) (rest : List Value) (x y : Int64), ¬ y = 0 → W p l e R s m args below meth c H locs cells slots Q (F0 m (pc + 1) ls (.long (f2 x y) :: rest)) → W p l e R s m args below meth c H locs cells slots Q (F0 m (pc) ls (.long y :: .long x :: rest)))
    (h : ycldiv k pc lv st g = some (fr2, g2)) (hk : ychold p l e R s m args below meth c Q cl D A tc ad oa nL cells slots fr2 g2) : ychold p l e R s m args below meth c Q cl D A tc ad oa nL cells slots (pc, lv, st) g := by
  unfold ycldiv at h
  split at h
  · rename_i b a t
    cases hq : decide (y64 b = 0) with
    | true => rw [hq] at h; cases h
    | false =>
      rw [hq] at h
      have hgo := ycgo_s h hk
      intro H locs ls hP hD hS hm hl
      refine hrow H locs ls _ _ _ (fun z => of_decide_eq_false hq ?_) ?_
      · show (Int64.ofInt b).toInt = 0
        rw [z]; rfl
      · rw [← hf2, ← ycJ_s]
        exact hgo H locs ls hP hD hS hm hl
  · cases h
theorem yclcmp_v (a b : Int) : Int32.ofInt (bif decide (y64 b < y64 a) then 1 else bif decide (y64 a = y64 b) then 0 else -1) = lg_cmp (Int64.ofInt a) (Int64.ofInt b) := by
  have e1 : (Int64.ofInt b < Int64.ofInt a) ↔ y64 b < y64 a := Int64.lt_iff_toInt_lt
  have e2 : (Int64.ofInt a = Int64.ofInt b) ↔ y64 a = y64 b := Int64.toInt_inj.symm
  unfold lg_cmp
  by_cases h1 : y64 b < y64 a
  · have h2 : ¬ y64 a = y64 b := by omega
    have h3 : ¬ y64 a < y64 b := by omega
    simp [h1, h2, h3, e1, e2, Int64.lt_iff_toInt_lt, show (Int64.ofInt a).toInt = y64 a from rfl, show (Int64.ofInt b).toInt = y64 b from rfl]
  · by_cases h2 : y64 a = y64 b
    · simp [h1, h2, e1, e2, Int64.lt_iff_toInt_lt, show (Int64.ofInt a).toInt = y64 a from rfl, show (Int64.ofInt b).toInt = y64 b from rfl]
    · have h3 : y64 a < y64 b := by omega
      simp [h1, h2, h3, e1, e2, Int64.lt_iff_toInt_lt, show (Int64.ofInt a).toInt = y64 a from rfl, show (Int64.ofInt b).toInt = y64 b from rfl]
def yctsok (own : String) (Ts : List Cond) (Kc Kl : Nat → Option Int) (Fd : Nat → Option ycFd) (cl : List vw_C) : Prop :=
  (∀ i x, Fd i = some x → ycfok Ts own cl i x) ∧ (∀ i v, Kc i = some v → Cond.constant own i (Int32.ofInt v) ∈ Ts) ∧ (∀ i v, Kl i = some v → Cond.constantLong own i (Int64.ofInt v) ∈ Ts)
set_option maxHeartbeats 4000000 in
theorem ycstep_s {own : String} {Ts : List Cond} {ini : Bool} {Fd : Nat → Option ycFd} {Kc Kl : Nat → Option Int} {St : Nat → Option Nat} {old : Nat → Nat × (Nat → Int)} {ins : Instr} (hexec : p.tables.exec = Jvm.exec) (hb : c.code = cc) (hown : s.vm.findClass own = some m.cls) (hts : ∀ w ∈ Ts, w.before args s = true) (hK : va_K D cl (yctys tc) s) (hini : ini = true → meth.name = "<init>")
    (hT : yctsok own Ts Kc Kl Fd cl) (hcl : ycclok cl) (hz : ∀ k, 6 ≤ k → (old k).1 = 0) (hold : ycold old oa A s s.heap)
    (hSt : ∀ i k, St i = some k → ∃ nm : String, Cond.fieldLink own i own nm "[I" ∈ Ts ∧ va_Z own nm "[I" (.ref (oa k)) A s s.heap)
    (hdg : decode cc pc = .ok (ins, len)) (hlen : (ycisw ins || Nat.beq len (yclen ins)) = true) (h : ycstep nL ini Fd Kc Kl St old ins pc lv st g = some (fr2, g2)) (hk : ychold p l e R s m args below meth c Q cl D A tc ad oa nL cells slots fr2 g2) : ychold p l e R s m args below meth c Q cl D A tc ad oa nL cells slots (pc, lv, st) g := by
  cases ins
  case iconst i =>
    have hl9 : len = 1 := Nat.eq_of_beq_eq_true hlen
    subst hl9
    exact ycci_s (len := 1) rfl (fun H locs ls rest k => lv_iconst hexec hb hdg rfl k) h hk
  case bipush i =>
    have hl9 : len = 2 := Nat.eq_of_beq_eq_true hlen
    subst hl9
    exact ycci_s (len := 2) (v := (Int8.ofInt i).toInt32) (Int32.ofInt_toInt _) (fun H locs ls rest k => lv_bipush hexec hb hdg rfl k) h hk
  case sipush i =>
    have hl9 : len = 3 := Nat.eq_of_beq_eq_true hlen
    subst hl9
    exact ycci_s (len := 3) (v := (Int16.ofInt i).toInt32) (Int32.ofInt_toInt _) (fun H locs ls rest k => lv_sipush hexec hb hdg rfl k) h hk
  case lconst i =>
    have hl9 : len = 1 := Nat.eq_of_beq_eq_true hlen
    subst hl9
    exact yccl_s (len := 1) (v := Int64.ofNat (i : Nat)) (Int64.ofInt_eq_ofNat) (fun H locs ls rest k => lv_lconst hexec hb hdg rfl k) h hk
  case ldc i =>
    have hl9 : len = 2 := Nat.eq_of_beq_eq_true hlen
    subst hl9
    change (match Kc i with | some v => ycgo (pc + 2) lv ((0, v) :: st) g | none => none) = some (fr2, g2) at h
    split at h
    · rename_i v hv
      exact ycci_s (len := 2) rfl (fun H locs ls rest k => lv_ldc hexec hb hown (hts _ (hT.2.1 i v hv)) hdg k) h hk
    · cases h
  case ldc_w i =>
    have hl9 : len = 3 := Nat.eq_of_beq_eq_true hlen
    subst hl9
    change (match Kc i with | some v => ycgo (pc + 3) lv ((0, v) :: st) g | none => none) = some (fr2, g2) at h
    split at h
    · rename_i v hv
      exact ycci_s (len := 3) rfl (fun H locs ls rest k => lv_ldcw hexec hb hown (hts _ (hT.2.1 i v hv)) hdg k) h hk
    · cases h
  case ldc2_w i =>
    have hl9 : len = 3 := Nat.eq_of_beq_eq_true hlen
    subst hl9
    change (match Kl i with | some v => ycgo (pc + 3) lv ((1, v) :: st) g | none => none) = some (fr2, g2) at h
    split at h
    · rename_i v hv
      exact yccl_s (len := 3) rfl (fun H locs ls rest k => lv_ldc2 hexec hb hown (hts _ (hT.2.2 i v hv)) hdg k) h hk
    · cases h
  case iload_n i =>
    have hl9 : len = 1 := Nat.eq_of_beq_eq_true hlen
    subst hl9
    refine ycload_s (len := 1) (fun H locs ls rest v hv hl k => ?_) h hk
    rcases hv with ⟨_, x, rfl⟩ | ⟨z, _⟩ | ⟨z, _⟩
    · exact lv_iload_n hexec hb hdg rfl hl k
    · cases z
    · cases z
  case iload i =>
    have hl9 : len = 2 := Nat.eq_of_beq_eq_true hlen
    subst hl9
    refine ycload_s (len := 2) (fun H locs ls rest v hv hl k => ?_) h hk
    rcases hv with ⟨_, x, rfl⟩ | ⟨z, _⟩ | ⟨z, _⟩
    · exact lv_iload hexec hb hdg hl k
    · cases z
    · cases z
  case lload_n i =>
    have hl9 : len = 1 := Nat.eq_of_beq_eq_true hlen
    subst hl9
    refine ycload_s (len := 1) (fun H locs ls rest v hv hl k => ?_) h hk
    rcases hv with ⟨z, _⟩ | ⟨_, x, rfl⟩ | ⟨z, _⟩
    · cases z
    · exact lv_lload_n hexec hb hdg rfl hl k
    · cases z
  case lload i =>
    have hl9 : len = 2 := Nat.eq_of_beq_eq_true hlen
    subst hl9
    refine ycload_s (len := 2) (fun H locs ls rest v hv hl k => ?_) h hk
    rcases hv with ⟨z, _⟩ | ⟨_, x, rfl⟩ | ⟨z, _⟩
    · cases z
    · exact lv_lload hexec hb hdg hl k
    · cases z
  case aload_n i =>
    have hl9 : len = 1 := Nat.eq_of_beq_eq_true hlen
    subst hl9
    refine ycload_s (len := 1) (fun H locs ls rest v hv hl k => ?_) h hk
    rcases hv with ⟨z, _⟩ | ⟨z, _⟩ | ⟨_, x, rfl⟩
    · cases z
    · cases z
    · exact lv_aload_n hexec hb hdg rfl hl k
  case aload i =>
    have hl9 : len = 2 := Nat.eq_of_beq_eq_true hlen
    subst hl9
    refine ycload_s (len := 2) (fun H locs ls rest v hv hl k => ?_) h hk
    rcases hv with ⟨z, _⟩ | ⟨z, _⟩ | ⟨_, x, rfl⟩
    · cases z
    · cases z
    · exact lv_aload hexec hb hdg hl k
  case istore_n i =>
    have hl9 : len = 1 := Nat.eq_of_beq_eq_true hlen
    subst hl9
    refine ycstore_s (len := 1) (fun H locs ls rest v lw hv hl kk => ?_) (fun H locs ls rest x v lw hz _ _ _ _ => by cases hz) h hk
    rcases hv with ⟨_, hn, x, rfl⟩ | ⟨z, _⟩
    · exact lv_istore_n hexec hb hdg rfl hl hn rfl kk
    · cases z
  case istore i =>
    have hl9 : len = 2 := Nat.eq_of_beq_eq_true hlen
    subst hl9
    refine ycstore_s (len := 2) (fun H locs ls rest v lw hv hl kk => ?_) (fun H locs ls rest x v lw hz _ _ _ _ => by cases hz) h hk
    rcases hv with ⟨_, hn, x, rfl⟩ | ⟨z, _⟩
    · exact lv_istore hexec hb hdg hl hn rfl kk
    · cases z
  case astore_n i =>
    have hl9 : len = 1 := Nat.eq_of_beq_eq_true hlen
    subst hl9
    refine ycstore_s (len := 1) (fun H locs ls rest v lw hv hl kk => ?_) (fun H locs ls rest x v lw hz _ _ _ _ => by cases hz) h hk
    rcases hv with ⟨z, _⟩ | ⟨_, hn, x, rfl⟩
    · cases z
    · exact lv_astore_n hexec hb hdg rfl hl hn rfl kk
  case astore i =>
    have hl9 : len = 2 := Nat.eq_of_beq_eq_true hlen
    subst hl9
    refine ycstore_s (len := 2) (fun H locs ls rest v lw hv hl kk => ?_) (fun H locs ls rest x v lw hz _ _ _ _ => by cases hz) h hk
    rcases hv with ⟨z, _⟩ | ⟨_, hn, x, rfl⟩
    · cases z
    · exact lv_astore hexec hb hdg hl hn rfl kk
  case lstore_n i =>
    have hl9 : len = 1 := Nat.eq_of_beq_eq_true hlen
    subst hl9
    refine ycstore_s (len := 1) (fun H locs ls rest v lw hv hl kk => by rcases hv with ⟨z, _⟩ | ⟨z, _⟩ <;> cases z) (fun H locs ls rest x v lw _ hn hv hl kk => ?_) h hk
    subst hv
    exact lv_lstore_n hexec hb hdg rfl hl hn rfl kk
  case lstore i =>
    have hl9 : len = 2 := Nat.eq_of_beq_eq_true hlen
    subst hl9
    refine ycstore_s (len := 2) (fun H locs ls rest v lw hv hl kk => by rcases hv with ⟨z, _⟩ | ⟨z, _⟩ <;> cases z) (fun H locs ls rest x v lw _ hn hv hl kk => ?_) h hk
    subst hv
    exact lv_lstore hexec hb hdg hl hn rfl kk
  case iinc i k =>
    have hl9 : len = 3 := Nat.eq_of_beq_eq_true hlen
    subst hl9
    exact ycinc_s hexec hb hdg h hk
  case iadd =>
    have hl9 : len = 1 := Nat.eq_of_beq_eq_true hlen
    subst hl9
    exact ycI2_s yc_add (fun H locs ls rest x y k => lv_iadd hexec hb hdg k) h hk
  case isub =>
    have hl9 : len = 1 := Nat.eq_of_beq_eq_true hlen
    subst hl9
    exact ycI2_s yc_sub (fun H locs ls rest x y k => lv_isub hexec hb hdg k) h hk
  case imul =>
    have hl9 : len = 1 := Nat.eq_of_beq_eq_true hlen
    subst hl9
    exact ycI2_s yc_mul (fun H locs ls rest x y k => lv_imul hexec hb hdg k) h hk
  case iand =>
    have hl9 : len = 1 := Nat.eq_of_beq_eq_true hlen
    subst hl9
    exact ycI2_s (ycI_s 1) (fun H locs ls rest x y k => lv_iand hexec hb hdg k) h hk
  case ior =>
    have hl9 : len = 1 := Nat.eq_of_beq_eq_true hlen
    subst hl9
    exact ycI2_s (ycI_s 2) (fun H locs ls rest x y k => lv_ior hexec hb hdg k) h hk
  case ixor =>
    have hl9 : len = 1 := Nat.eq_of_beq_eq_true hlen
    subst hl9
    exact ycI2_s (ycI_s 3) (fun H locs ls rest x y k => lv_ixor hexec hb hdg k) h hk
  case ishl =>
    have hl9 : len = 1 := Nat.eq_of_beq_eq_true hlen
    subst hl9
    exact ycI2_s (ycI_s 4) (fun H locs ls rest x y k => lv_ishl hexec hb hdg k) h hk
  case ishr =>
    have hl9 : len = 1 := Nat.eq_of_beq_eq_true hlen
    subst hl9
    exact ycI2_s (ycI_s 5) (fun H locs ls rest x y k => lv_ishr hexec hb hdg k) h hk
  case iushr =>
    have hl9 : len = 1 := Nat.eq_of_beq_eq_true hlen
    subst hl9
    exact ycI2_s (ycI_s 6) (fun H locs ls rest x y k => lv_iushr hexec hb hdg rfl k) h hk
  case idiv =>
    have hl9 : len = 1 := Nat.eq_of_beq_eq_true hlen
    subst hl9
    exact ycdiv_s (k := 7) (f2 := fun x y => x / y) rfl (fun H locs ls rest x y hy k => lv_idiv hexec hb hdg hy k) h hk
  case irem =>
    have hl9 : len = 1 := Nat.eq_of_beq_eq_true hlen
    subst hl9
    exact ycdiv_s (k := 8) (f2 := fun x y => x - x / y * y) rfl (fun H locs ls rest x y hy k => lv_irem hexec hb hdg hy k) h hk
  case ldiv =>
    have hl9 : len = 1 := Nat.eq_of_beq_eq_true hlen
    subst hl9
    exact ycldiv_s (k := 7) (f2 := fun x y => x / y) rfl (fun H locs ls rest x y hy k => lv_ldiv hexec hb hdg hy k) h hk
  case lrem =>
    have hl9 : len = 1 := Nat.eq_of_beq_eq_true hlen
    subst hl9
    exact ycldiv_s (k := 8) (f2 := fun x y => x - x / y * y) rfl (fun H locs ls rest x y hy k => lv_lrem hexec hb hdg hy k) h hk
  case ineg =>
    have hl9 : len = 1 := Nat.eq_of_beq_eq_true hlen
    subst hl9
    change ycneg pc lv st g = some (fr2, g2) at h
    unfold ycneg at h
    split at h
    · rename_i a t
      have hgo := ycgo_s h hk
      intro H locs ls hP hD hS hm hl
      refine lv_ineg hexec hb hdg ?_
      rw [← Int32.ofInt_neg, ← y32_s]
      exact hgo H locs ls hP hD hS hm hl
    · cases h
  case ladd =>
    have hl9 : len = 1 := Nat.eq_of_beq_eq_true hlen
    subst hl9
    exact ycL2_s (ycJ_s 4) (fun H locs ls rest x y k => lv_ladd hexec hb hdg k) h hk
  case lsub =>
    have hl9 : len = 1 := Nat.eq_of_beq_eq_true hlen
    subst hl9
    exact ycL2_s (ycJ_s 5) (fun H locs ls rest x y k => lv_lsub hexec hb hdg k) h hk
  case lmul =>
    have hl9 : len = 1 := Nat.eq_of_beq_eq_true hlen
    subst hl9
    exact ycL2_s (ycJ_s 6) (fun H locs ls rest x y k => lv_lmul hexec hb hdg k) h hk
  case land =>
    have hl9 : len = 1 := Nat.eq_of_beq_eq_true hlen
    subst hl9
    exact ycL2_s (ycJ_s 1) (fun H locs ls rest x y k => lv_land hexec hb hdg k) h hk
  case lor =>
    have hl9 : len = 1 := Nat.eq_of_beq_eq_true hlen
    subst hl9
    exact ycL2_s (ycJ_s 2) (fun H locs ls rest x y k => lv_lor hexec hb hdg k) h hk
  case lxor =>
    have hl9 : len = 1 := Nat.eq_of_beq_eq_true hlen
    subst hl9
    exact ycL2_s (ycJ_s 3) (fun H locs ls rest x y k => lv_lxor hexec hb hdg k) h hk
  case lshl =>
    have hl9 : len = 1 := Nat.eq_of_beq_eq_true hlen
    subst hl9
    exact ycLI_s (ycJI_s 1) (fun H locs ls rest x y k => lv_lshl hexec hb hdg rfl k) h hk
  case lshr =>
    have hl9 : len = 1 := Nat.eq_of_beq_eq_true hlen
    subst hl9
    exact ycLI_s (ycJI_s 2) (fun H locs ls rest x y k => lv_lshr hexec hb hdg rfl k) h hk
  case lushr =>
    have hl9 : len = 1 := Nat.eq_of_beq_eq_true hlen
    subst hl9
    exact ycLI_s (ycJI_s 3) (fun H locs ls rest x y k => lv_lushr hexec hb hdg rfl k) h hk
  case i2l =>
    have hl9 : len = 1 := Nat.eq_of_beq_eq_true hlen
    subst hl9
    change yci2l pc lv st g = some (fr2, g2) at h
    unfold yci2l at h
    split at h
    · rename_i a t
      have hgo := ycgo_s h hk
      intro H locs ls hP hD hS hm hl
      refine lv_i2l hexec hb hdg ?_ (hgo H locs ls hP hD hS hm hl)
      apply Int64.toInt_inj.mp
      have hr := y32_rng a
      change _ ≤ (Int32.ofInt a).toInt ∧ (Int32.ofInt a).toInt ≤ _ at hr
      rw [Int32.toInt_toInt64]
      exact (Int64.toInt_ofInt_of_le (by omega) (by omega)).symm
    · cases h
  case l2i =>
    have hl9 : len = 1 := Nat.eq_of_beq_eq_true hlen
    subst hl9
    change ycl2i pc lv st g = some (fr2, g2) at h
    unfold ycl2i at h
    split at h
    · rename_i a t
      have hgo := ycgo_s h hk
      intro H locs ls hP hD hS hm hl
      refine lv_l2i hexec hb hdg ?_ (hgo H locs ls hP hD hS hm hl)
      rw [y32_s]
      exact Int64.toInt32_ofInt
    · cases h
  case lcmp =>
    have hl9 : len = 1 := Nat.eq_of_beq_eq_true hlen
    subst hl9
    change yclcmp pc lv st g = some (fr2, g2) at h
    unfold yclcmp at h
    split at h
    · rename_i b a t
      have hgo := ycgo_s h hk
      intro H locs ls hP hD hS hm hl
      have h1 := hgo H locs ls hP hD hS hm hl
      refine W.lcmp hexec hb hdg ?_
      rw [← yclcmp_v]
      exact h1
    · cases h
  case dup =>
    have hl9 : len = 1 := Nat.eq_of_beq_eq_true hlen
    subst hl9
    change ycdup pc lv st g = some (fr2, g2) at h
    unfold ycdup at h
    split at h
    · rename_i v t
      cases hq : Nat.beq v.1 1 with
      | true => rw [hq] at h; cases h
      | false =>
        rw [hq] at h
        have hgo := ycgo_s h hk
        intro H locs ls hP hD hS hm hl
        exact lv_dup hexec hb hdg (yccat1 hq) (hgo H locs ls hP hD hS hm hl)
    · cases h
  case pop =>
    have hl9 : len = 1 := Nat.eq_of_beq_eq_true hlen
    subst hl9
    change ycpop pc lv st g = some (fr2, g2) at h
    unfold ycpop at h
    split at h
    · rename_i v t
      cases hq : Nat.beq v.1 1 with
      | true => rw [hq] at h; cases h
      | false =>
        rw [hq] at h
        have hgo := ycgo_s h hk
        intro H locs ls hP hD hS hm hl
        exact lv_pop hexec hb hdg (yccat1 hq) (hgo H locs ls hP hD hS hm hl)
    · cases h
  case dup2 =>
    have hl9 : len = 1 := Nat.eq_of_beq_eq_true hlen
    subst hl9
    change ycdup2 pc lv st g = some (fr2, g2) at h
    unfold ycdup2 at h
    split at h
    · rename_i v w t
      cases hq : Nat.beq v.1 1 || Nat.beq w.1 1 with
      | true => rw [hq] at h; cases h
      | false =>
        rw [hq] at h
        rw [Bool.or_eq_false_iff] at hq
        have hgo := ycgo_s h hk
        intro H locs ls hP hD hS hm hl
        exact lv_dup2_11 hexec hb hdg (yccat1 hq.1) (yccat1 hq.2) (hgo H locs ls hP hD hS hm hl)
    · cases h
  case ifCond cd off =>
    have hl9 : len = 3 := Nat.eq_of_beq_eq_true hlen
    subst hl9
    exact ycif_s hexec hb hdg h hk
  case if_icmp cd off =>
    have hl9 : len = 3 := Nat.eq_of_beq_eq_true hlen
    subst hl9
    exact ycicm_s hexec hb hdg h hk
  case if_acmp cd off =>
    have hl9 : len = 3 := Nat.eq_of_beq_eq_true hlen
    subst hl9
    exact ycacm_s hexec hb hdg h hk
  case goto off =>
    have hl9 : len = 3 := Nat.eq_of_beq_eq_true hlen
    subst hl9
    obtain ⟨n, hn, hg⟩ := ycjmp_s (n := 0) (show ycjmp pc off lv st g = some (fr2, g2) from h)
    have hgo := ycgo_s hg hk
    intro H locs ls hP hD hS hm hl
    exact lv_goto hexec hb hdg hn (hgo H locs ls hP hD hS hm hl)
  case tableswitch d lo hi offs => exact yctsw_s hexec hb hdg h hk
  case lookupswitch d ps => exact yclsw_s hexec hb hdg h hk
  case iaload =>
    have hl9 : len = 1 := Nat.eq_of_beq_eq_true hlen
    subst hl9
    exact ycald_s hexec hb hK hz hold hdg h hk
  case baload =>
    have hl9 : len = 1 := Nat.eq_of_beq_eq_true hlen
    subst hl9
    exact ycbald_s hexec hb hK hdg h hk
  case laload =>
    have hl9 : len = 1 := Nat.eq_of_beq_eq_true hlen
    subst hl9
    exact yclald_s hexec hb hK hdg h hk
  case aaload =>
    have hl9 : len = 1 := Nat.eq_of_beq_eq_true hlen
    subst hl9
    exact ycaald_s hexec hb hK hdg h hk
  case iastore =>
    have hl9 : len = 1 := Nat.eq_of_beq_eq_true hlen
    subst hl9
    change ycast 14 pc lv st g = some (fr2, g2) at h
    unfold ycast at h
    split at h
    · rename_i k v i a t
      cases hq : (bif Nat.beq 14 15 then Nat.beq k 1 else Nat.beq k 0) && (bif Nat.beq 14 16 then decide (v = 0) || decide (v = 1) else true) with
      | false => rw [hq] at h; cases h
      | true =>
        rw [hq] at h
        rw [Bool.and_eq_true] at hq
        have hk0 := Nat.eq_of_beq_eq_true hq.1
        change (match ycput 14 i a (k, v) g with | some g3 => ycgo (pc + 1) lv t g3 | none => none) = some (fr2, g2) at h
        split at h
        · rename_i g3 hg3
          exact ycast_i (v := (k, v)) hk0 hexec hb hK hdg hg3 (ycgo_s h hk)
        · cases h
    · cases h
  case lastore =>
    have hl9 : len = 1 := Nat.eq_of_beq_eq_true hlen
    subst hl9
    change ycast 15 pc lv st g = some (fr2, g2) at h
    unfold ycast at h
    split at h
    · rename_i k v i a t
      cases hq : (bif Nat.beq 15 15 then Nat.beq k 1 else Nat.beq k 0) && (bif Nat.beq 15 16 then decide (v = 0) || decide (v = 1) else true) with
      | false => rw [hq] at h; cases h
      | true =>
        rw [hq] at h
        rw [Bool.and_eq_true] at hq
        have hk0 := Nat.eq_of_beq_eq_true hq.1
        change (match ycput 15 i a (k, v) g with | some g3 => ycgo (pc + 1) lv t g3 | none => none) = some (fr2, g2) at h
        split at h
        · rename_i g3 hg3
          exact ycast_l (v := (k, v)) hk0 hexec hb hK hdg hg3 (ycgo_s h hk)
        · cases h
    · cases h
  case bastore =>
    have hl9 : len = 1 := Nat.eq_of_beq_eq_true hlen
    subst hl9
    change ycast 16 pc lv st g = some (fr2, g2) at h
    unfold ycast at h
    split at h
    · rename_i k v i a t
      cases hq : (bif Nat.beq 16 15 then Nat.beq k 1 else Nat.beq k 0) && (bif Nat.beq 16 16 then decide (v = 0) || decide (v = 1) else true) with
      | false => rw [hq] at h; cases h
      | true =>
        rw [hq] at h
        rw [Bool.and_eq_true] at hq
        have hk0 := Nat.eq_of_beq_eq_true hq.1
        change (match ycput 16 i a (k, v) g with | some g3 => ycgo (pc + 1) lv t g3 | none => none) = some (fr2, g2) at h
        split at h
        · rename_i g3 hg3
          exact ycast_z (v := (k, v)) hk0 (by have h2 := hq.2; change (decide (v = 0) || decide (v = 1)) = true at h2; rw [Bool.or_eq_true, decide_eq_true_iff, decide_eq_true_iff] at h2; exact h2) hexec hb hK hdg hg3 (ycgo_s h hk)
        · cases h
    · cases h
  case aastore =>
    have hl9 : len = 1 := Nat.eq_of_beq_eq_true hlen
    subst hl9
    exact ycaast_s hexec hb hK hcl hdg h hk
  case arraylength =>
    have hl9 : len = 1 := Nat.eq_of_beq_eq_true hlen
    subst hl9
    exact ycalen_s hexec hb hK hz hold hdg h hk
  case getfield i =>
    have hl9 : len = 3 := Nat.eq_of_beq_eq_true hlen
    subst hl9
    change (match Fd i with | some x => ycgetf x pc lv st g | none => none) = some (fr2, g2) at h
    split at h
    · rename_i x hx
      exact ycgetf_s hexec hb hown hts hK (hT.1 i x hx) hdg h hk
    · cases h
  case putfield i =>
    have hl9 : len = 3 := Nat.eq_of_beq_eq_true hlen
    subst hl9
    change (match Fd i with | some x => ycputf x ini pc lv st g | none => none) = some (fr2, g2) at h
    split at h
    · rename_i x hx
      exact ycputf_s hexec hb hown hts hK hini (hT.1 i x hx) hdg h hk
    · cases h
  case getstatic i =>
    have hl9 : len = 3 := Nat.eq_of_beq_eq_true hlen
    subst hl9
    change (match St i with | some k => ycgo (pc + 3) lv ((4, (k : Int)) :: st) g | none => none) = some (fr2, g2) at h
    split at h
    · rename_i k hx
      obtain ⟨nm, hl1, hZ⟩ := hSt i k hx
      have hgo := ycgo_s h hk
      intro H locs ls hP hD hS hm hl
      exact va_gets hexec hb hZ hS hown (hts _ hl1) (fun _ z => z) hdg (hgo H locs ls hP hD hS hm hl)
    · cases h
  all_goals exact absurd (show (none : ycR) = some (fr2, g2) from h) (by simp)
end YC6
