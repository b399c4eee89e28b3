section YC3
variable {p : Program} {l : Launch} {e : Env} {R : Room} {s : State} {m : MethodId} {args : Array Value} {below : List Frame} {meth : Method} {c : Code} {Q : State → Prop} {cl : List vw_C} {D : va_G} {A : Nat → Prop} {tc : Nat → ClassId} {ad oa : Nat → Nat} {nL cells slots : Nat}
variable {cc : ByteArray} {pc len : Nat} {lv : List (Nat × ycV)} {st : List ycV} {g g2 : ycH} {fr2 : ycF}
/-- from this frame and heap the goal is reached, wherever the cells lie -/
def ychold (p : Program) (l : Launch) (e : Env) (R : Room) (s : State) (m : MethodId) (args : Array Value) (below : List Frame) (meth : Method) (c : Code) (Q : State → Prop) (cl : List vw_C) (D : va_G) (A : Nat → Prop) (tc : Nat → ClassId) (ad oa : Nat → Nat) (nL cells slots : Nat) (fr : ycF) (g : ycH) : Prop :=
  ∀ (H : Heap) (locs : List Loc) (ls : Array Slot), va_P D cl (ycws ad oa tc g.1 g.2.1) H → va_D A (ycws ad oa tc g.1 g.2.1) → va_S A s.heap H locs → (g.2.2 = true → ad g.2.1 = s.heap.size + cells ∧ s.heap.size + cells ≤ H.size) → lv_has ls nL (yclv ad oa fr.2.1) → W p l e R s m args below meth c H locs cells slots Q (F0 m fr.1 ls (fr.2.2.map (ycv ad oa)))
abbrev yctys (tc : Nat → ClassId) : List (ClassId × FieldType) := [(tc 14, .int), (tc 15, .long), (tc 16, .boolean), (tc 17, .object "PictureCodingHouse$ByteRow"), (tc 18, .object "PictureCodingHouse$Grid"), (tc 19, .array .int), (tc 20, .array .long)]
theorem ycgo_s {pc2 : Nat} {lv2 : List (Nat × ycV)} {st2 : List ycV} (h : ycgo pc2 lv2 st2 g = some (fr2, g2)) (hk : ychold p l e R s m args below meth c Q cl D A tc ad oa nL cells slots fr2 g2) : ychold p l e R s m args below meth c Q cl D A tc ad oa nL cells slots (pc2, lv2, st2) g := by
  cases h
  exact hk
theorem ycI2_s {f : Int → Int → Int} {f2 : Int32 → Int32 → Int32} (hf : ∀ a b, Int32.ofInt (f a b) = f2 (Int32.ofInt a) (Int32.ofInt b))
    (hrow : ∀ (H : Heap) (locs : List Loc) (ls : Array Slot) (rest : List Value) (x y : Int32), W p l e R s m args below meth c H locs cells slots Q (F0 m (pc + 1) ls (.int (f2 x y) :: rest)) → W p l e R s m args below meth c H locs cells slots Q (F0 m (pc) ls (.int y :: .int x :: rest)))
    (h : ycI2 f pc lv st g = some (fr2, g2)) (hk : ychold p l e R s m args below meth c Q cl D A tc ad oa nL cells slots fr2 g2) : ychold p l e R s m args below meth c Q cl D A tc ad oa nL cells slots (pc, lv, st) g := by
  unfold ycI2 at h
  split at h
  · have := ycgo_s h hk
    intro H locs ls hP hD hS hm hl
    refine hrow H locs ls _ _ _ ?_
    rw [← hf]
    exact this H locs ls hP hD hS hm hl
  · cases h
theorem ycL2_s {f : Int → Int → Int} {f2 : Int64 → Int64 → Int64} (hf : ∀ a b, Int64.ofInt (f a b) = f2 (Int64.ofInt a) (Int64.ofInt b))
    (hrow : ∀ (H : Heap) (locs : List Loc) (ls : Array Slot) (rest : List Value) (x y : Int64), W p l e R s m args below meth c H locs cells slots Q (F0 m (pc + 1) ls (.long (f2 x y) :: rest)) → W p l e R s m args below meth c H locs cells slots Q (F0 m (pc) ls (.long y :: .long x :: rest)))
    (h : ycL2 f pc lv st g = some (fr2, g2)) (hk : ychold p l e R s m args below meth c Q cl D A tc ad oa nL cells slots fr2 g2) : ychold p l e R s m args below meth c Q cl D A tc ad oa nL cells slots (pc, lv, st) g := by
  unfold ycL2 at h
  split at h
  · have := ycgo_s h hk
    intro H locs ls hP hD hS hm hl
    refine hrow H locs ls _ _ _ ?_
    rw [← hf]
    exact this H locs ls hP hD hS hm hl
  · cases h
theorem ycLI_s {f : Int → Int → Int} {f2 : Int64 → Int32 → Int64} (hf : ∀ a b, Int64.ofInt (f a b) = f2 (Int64.ofInt a) (Int32.ofInt b))
    (hrow : ∀ (H : Heap) (locs : List Loc) (ls : Array Slot) (rest : List Value) (x : Int64) (y : Int32), W p l e R s m args below meth c H locs cells slots Q (F0 m (pc + 1) ls (.long (f2 x y) :: rest)) → W p l e R s m args below meth c H locs cells slots Q (F0 m (pc) ls (.int y :: .long x :: rest)))
    (h : ycLI f pc lv st g = some (fr2, g2)) (hk : ychold p l e R s m args below meth c Q cl D A tc ad oa nL cells slots fr2 g2) : ychold p l e R s m args below meth c Q cl D A tc ad oa nL cells slots (pc, lv, st) g := by
  unfold ycLI at h
  split at h
  · have := ycgo_s h hk
    intro H locs ls hP hD hS hm hl
    refine hrow H locs ls _ _ _ ?_
    rw [← hf]
    exact this H locs ls hP hD hS hm hl
  · cases h
theorem ycci_s {n : Int} {v : Int32} (hv : Int32.ofInt n = v)
    (hrow : ∀ (H : Heap) (locs : List Loc) (ls : Array Slot) (rest : List Value), W p l e R s m args below meth c H locs cells slots Q (F0 m (pc + len) ls (.int v :: rest)) → W p l e R s m args below meth c H locs cells slots Q (F0 m (pc) ls (rest)))
    (h : ycgo (pc + len) lv ((0, n) :: st) g = some (fr2, g2)) (hk : ychold p l e R s m args below meth c Q cl D A tc ad oa nL cells slots fr2 g2) : ychold p l e R s m args below meth c Q cl D A tc ad oa nL cells slots (pc, lv, st) g := by
  have := ycgo_s h hk
  intro H locs ls hP hD hS hm hl
  refine hrow H locs ls _ ?_
  rw [← hv]
  exact this H locs ls hP hD hS hm hl
theorem yccl_s {n : Int} {v : Int64} (hv : Int64.ofInt n = v)
    (hrow : ∀ (H : Heap) (locs : List Loc) (ls : Array Slot) (rest : List Value), W p l e R s m args below meth c H locs cells slots Q (F0 m (pc + len) ls (.long v :: rest)) → W p l e R s m args below meth c H locs cells slots Q (F0 m (pc) ls (rest)))
    (h : ycgo (pc + len) lv ((1, n) :: st) g = some (fr2, g2)) (hk : ychold p l e R s m args below meth c Q cl D A tc ad oa nL cells slots fr2 g2) : ychold p l e R s m args below meth c Q cl D A tc ad oa nL cells slots (pc, lv, st) g := by
  have := ycgo_s h hk
  intro H locs ls hP hD hS hm hl
  refine hrow H locs ls _ ?_
  rw [← hv]
  exact this H locs ls hP hD hS hm hl
theorem ycload_s {k i : Nat}
    (hrow : ∀ (H : Heap) (locs : List Loc) (ls : Array Slot) (rest : List Value) (v : Value), ((k = 0 ∧ ∃ x : Int32, v = .int x) ∨ (k = 1 ∧ ∃ x : Int64, v = .long x) ∨ (k = 2 ∧ ∃ x : Nat, v = .ref x)) → ls[i]? = some (.val v) → W p l e R s m args below meth c H locs cells slots Q (F0 m (pc + len) ls (v :: rest)) → W p l e R s m args below meth c H locs cells slots Q (F0 m (pc) ls (rest)))
    (h : ycload k (pc + len) i lv st g = some (fr2, g2)) (hk : ychold p l e R s m args below meth c Q cl D A tc ad oa nL cells slots fr2 g2) : ychold p l e R s m args below meth c Q cl D A tc ad oa nL cells slots (pc, lv, st) g := by
  unfold ycload at h
  split at h
  · rename_i x hg
    cases hb : Nat.beq k 0 with
    | false => rw [hb] at h; cases h
    | true =>
      rw [hb] at h
      have := ycgo_s h hk
      intro H locs ls hP hD hS hm hl
      exact hrow H locs ls _ (.int (Int32.ofInt x)) (Or.inl ⟨Nat.eq_of_beq_eq_true hb, _, rfl⟩) (yclv_m hg hl) (this H locs ls hP hD hS hm hl)
  · rename_i x hg
    cases hb : Nat.beq k 1 with
    | false => rw [hb] at h; cases h
    | true =>
      rw [hb] at h
      have := ycgo_s h hk
      intro H locs ls hP hD hS hm hl
      exact hrow H locs ls _ (.long (Int64.ofInt x)) (Or.inr (Or.inl ⟨Nat.eq_of_beq_eq_true hb, _, rfl⟩)) (yclv_m hg hl) (this H locs ls hP hD hS hm hl)
  · rename_i x hg
    cases hb : Nat.beq k 2 with
    | false => rw [hb] at h; cases h
    | true =>
      rw [hb] at h
      have := ycgo_s h hk
      intro H locs ls hP hD hS hm hl
      exact hrow H locs ls _ (.ref (ad x.toNat)) (Or.inr (Or.inr ⟨Nat.eq_of_beq_eq_true hb, _, rfl⟩)) (yclv_m hg hl) (this H locs ls hP hD hS hm hl)
  · rename_i x hg
    cases hb : Nat.beq k 2 with
    | false => rw [hb] at h; cases h
    | true =>
      rw [hb] at h
      have := ycgo_s h hk
      intro H locs ls hP hD hS hm hl
      exact hrow H locs ls _ (.ref (oa x.toNat)) (Or.inr (Or.inr ⟨Nat.eq_of_beq_eq_true hb, _, rfl⟩)) (yclv_m hg hl) (this H locs ls hP hD hS hm hl)
  · cases h
theorem ycstore_s {k i : Nat}
    (hrow : ∀ (H : Heap) (locs : List Loc) (ls : Array Slot) (rest : List Value) (v : Value) (lw : List (Nat × Value)), ((k = 0 ∧ i < nL ∧ ∃ x : Int32, v = .int x) ∨ (k = 2 ∧ i < nL ∧ ∃ x : Nat, v = .ref x)) → lv_has ls nL lw → (∀ ls : Array Slot, lv_has ls nL ((i, v) :: lw.filter (fun q => !(q.1 == i) && !(q.1 + 1 == i && q.2.category == 2))) → W p l e R s m args below meth c H locs cells slots Q (F0 m (pc + len) ls (rest))) → W p l e R s m args below meth c H locs cells slots Q (F0 m (pc) ls (v :: rest)))
    (hrow2 : ∀ (H : Heap) (locs : List Loc) (ls : Array Slot) (rest : List Value) (x : Int64) (v : Value) (lw : List (Nat × Value)), k = 1 → i + 1 < nL → v = .long x → lv_has ls nL lw → (∀ ls : Array Slot, lv_has ls nL ((i, v) :: lw.filter (fun q => !(q.1 == i) && (!(q.1 == i + 1) && !(q.1 + 1 == i && q.2.category == 2)))) → W p l e R s m args below meth c H locs cells slots Q (F0 m (pc + len) ls (rest))) → W p l e R s m args below meth c H locs cells slots Q (F0 m (pc) ls (v :: rest)))
    (h : ycstore nL k (pc + len) i lv st g = some (fr2, g2)) (hk : ychold p l e R s m args below meth c Q cl D A tc ad oa nL cells slots fr2 g2) : ychold p l e R s m args below meth c Q cl D A tc ad oa nL cells slots (pc, lv, st) g := by
  unfold ycstore at h
  split at h
  · rename_i x t
    cases hb : Nat.beq k 0 && Nat.blt i nL with
    | false => rw [hb] at h; cases h
    | true =>
      rw [hb] at h
      rw [Bool.and_eq_true] at hb
      have := ycgo_s h hk
      intro H locs ls hP hD hS hm hl
      refine hrow H locs ls _ (.int (Int32.ofInt x)) _ (Or.inl ⟨Nat.eq_of_beq_eq_true hb.1, Nat.ble_eq.mp hb.2, _, rfl⟩) hl (fun ls' hl' => ?_)
      rw [show Value.int (Int32.ofInt x) = ycv ad oa (0, x) from rfl, ycst1_s] at hl'
      exact this H locs ls' hP hD hS hm hl'
  · rename_i x t
    cases hb : Nat.beq k 1 && Nat.blt (i + 1) nL with
    | false => rw [hb] at h; cases h
    | true =>
      rw [hb] at h
      rw [Bool.and_eq_true] at hb
      have := ycgo_s h hk
      intro H locs ls hP hD hS hm hl
      refine hrow2 H locs ls _ _ (.long (Int64.ofInt x)) _ (Nat.eq_of_beq_eq_true hb.1) (Nat.ble_eq.mp hb.2) rfl hl (fun ls' hl' => ?_)
      rw [show Value.long (Int64.ofInt x) = ycv ad oa (1, x) from rfl, ycst2_s] at hl'
      exact this H locs ls' hP hD hS hm hl'
  · rename_i x t
    cases hb : Nat.beq k 2 && Nat.blt i nL with
    | false => rw [hb] at h; cases h
    | true =>
      rw [hb] at h
      rw [Bool.and_eq_true] at hb
      have := ycgo_s h hk
      intro H locs ls hP hD hS hm hl
      refine hrow H locs ls _ (.ref (ad x.toNat)) _ (Or.inr ⟨Nat.eq_of_beq_eq_true hb.1, Nat.ble_eq.mp hb.2, _, rfl⟩) hl (fun ls' hl' => ?_)
      rw [show Value.ref (ad x.toNat) = ycv ad oa (2, x) from rfl, ycst1_s] at hl'
      exact this H locs ls' hP hD hS hm hl'
  · rename_i x t
    cases hb : Nat.beq k 2 && Nat.blt i nL with
    | false => rw [hb] at h; cases h
    | true =>
      rw [hb] at h
      rw [Bool.and_eq_true] at hb
      have := ycgo_s h hk
      intro H locs ls hP hD hS hm hl
      refine hrow H locs ls _ (.ref (oa x.toNat)) _ (Or.inr ⟨Nat.eq_of_beq_eq_true hb.1, Nat.ble_eq.mp hb.2, _, rfl⟩) hl (fun ls' hl' => ?_)
      rw [show Value.ref (oa x.toNat) = ycv ad oa (4, x) from rfl, ycst1_s] at hl'
      exact this H locs ls' hP hD hS hm hl'
  · cases h
theorem ycfork_s {off : Int} {b : Bool} {P : Prop} (hB : b = true ↔ P) {st2 : List ycV}
    (hrow : ∀ (H : Heap) (locs : List Loc) (ls : Array Slot) (tgt : Nat), (pc : Int) + off = (tgt : Int) → (P → W p l e R s m args below meth c H locs cells slots Q (F0 m (tgt) ls ((st2.map (ycv ad oa))))) → (¬ P → W p l e R s m args below meth c H locs cells slots Q (F0 m (pc + 3) ls ((st2.map (ycv ad oa))))) → W p l e R s m args below meth c H locs cells slots Q (F0 m (pc) ls ((st.map (ycv ad oa)))))
    (h : ycfork pc off b lv st2 g = some (fr2, g2)) (hk : ychold p l e R s m args below meth c Q cl D A tc ad oa nL cells slots fr2 g2) : ychold p l e R s m args below meth c Q cl D A tc ad oa nL cells slots (pc, lv, st) g := by
  unfold ycfork at h
  split at h
  · rename_i n hn9
    intro H locs ls hP hD hS hm hl
    cases b with
    | true =>
      have := ycgo_s (show ycgo n lv st2 g = some (fr2, g2) from h) hk
      exact hrow H locs ls n (yctgt_s hn9) (fun _ => this H locs ls hP hD hS hm hl) (fun z => absurd (hB.mp rfl) z)
    | false =>
      have := ycgo_s (show ycgo (pc + 3) lv st2 g = some (fr2, g2) from h) hk
      exact hrow H locs ls n (yctgt_s hn9) (fun z => absurd (hB.mpr z) (by simp)) (fun _ => this H locs ls hP hD hS hm hl)
  · cases h
theorem yccd_eq {a b : Int} : (yccd .eq (y32 a) (y32 b) = true) ↔ Int32.ofInt a = Int32.ofInt b := by
  show decide (y32 a = y32 b) = true ↔ _
  rw [decide_eq_true_iff]
  exact Int32.toInt_inj
theorem yccd_ne {a b : Int} : (yccd .ne (y32 a) (y32 b) = true) ↔ ¬ Int32.ofInt a = Int32.ofInt b := by
  show decide (y32 a ≠ y32 b) = true ↔ _
  rw [decide_eq_true_iff]
  exact not_congr Int32.toInt_inj
theorem yccd_lt {a b : Int} : (yccd .lt (y32 a) (y32 b) = true) ↔ Int32.ofInt a < Int32.ofInt b := by
  show decide (y32 a < y32 b) = true ↔ _
  rw [decide_eq_true_iff]
  exact Int32.lt_iff_toInt_lt.symm
theorem yccd_gt {a b : Int} : (yccd .gt (y32 a) (y32 b) = true) ↔ Int32.ofInt b < Int32.ofInt a := by
  show decide (y32 b < y32 a) = true ↔ _
  rw [decide_eq_true_iff]
  exact Int32.lt_iff_toInt_lt.symm
theorem yccd_le {a b : Int} : (yccd .le (y32 a) (y32 b) = true) ↔ Int32.ofInt a ≤ Int32.ofInt b := by
  show decide (y32 a ≤ y32 b) = true ↔ _
  rw [decide_eq_true_iff]
  exact Int32.le_iff_toInt_le.symm
theorem yccd_ge {a b : Int} : (yccd .ge (y32 a) (y32 b) = true) ↔ Int32.ofInt b ≤ Int32.ofInt a := by
  show decide (y32 b ≤ y32 a) = true ↔ _
  rw [decide_eq_true_iff]
  exact Int32.le_iff_toInt_le.symm
theorem y32_0 : y32 0 = 0 := rfl
theorem ycif_s {cd : ClassFile.Cond} {off : Int} (hexec : p.tables.exec = Jvm.exec) (hb : c.code = cc) (hdg : decode cc pc = .ok (.ifCond cd off, 3)) (h : ycif cd pc off lv st g = some (fr2, g2)) (hk : ychold p l e R s m args below meth c Q cl D A tc ad oa nL cells slots fr2 g2) : ychold p l e R s m args below meth c Q cl D A tc ad oa nL cells slots (pc, lv, st) g := by
  unfold ycif at h
  split at h
  · rename_i x t
    rw [← y32_0] at h
    cases cd
    · exact ycfork_s (yccd_eq (a := x) (b := 0)) (fun H locs ls tgt ht kt kf => lv_if_eq hexec hb hdg ht kt kf) h hk
    · exact ycfork_s (yccd_ne (a := x) (b := 0)) (fun H locs ls tgt ht kt kf => lv_if_ne hexec hb hdg ht kt (fun z => kf (fun y => y z))) h hk
    · exact ycfork_s (yccd_lt (a := x) (b := 0)) (fun H locs ls tgt ht kt kf => lv_if_lt hexec hb hdg ht kt kf) h hk
    · exact ycfork_s (yccd_ge (a := x) (b := 0)) (fun H locs ls tgt ht kt kf => lv_if_ge hexec hb hdg ht kt kf) h hk
    · exact ycfork_s (yccd_gt (a := x) (b := 0)) (fun H locs ls tgt ht kt kf => lv_if_gt hexec hb hdg ht kt kf) h hk
    · exact ycfork_s (yccd_le (a := x) (b := 0)) (fun H locs ls tgt ht kt kf => lv_if_le hexec hb hdg ht kt kf) h hk
  · cases h
theorem ycicm_s {cd : ClassFile.Cond} {off : Int} (hexec : p.tables.exec = Jvm.exec) (hb : c.code = cc) (hdg : decode cc pc = .ok (.if_icmp cd off, 3)) (h : ycicm cd pc off lv st g = some (fr2, g2)) (hk : ychold p l e R s m args below meth c Q cl D A tc ad oa nL cells slots fr2 g2) : ychold p l e R s m args below meth c Q cl D A tc ad oa nL cells slots (pc, lv, st) g := by
  unfold ycicm at h
  split at h
  · rename_i y x t
    cases cd
    · exact ycfork_s yccd_eq (fun H locs ls tgt ht kt kf => lv_icmp_eq hexec hb hdg ht kt kf) h hk
    · exact ycfork_s yccd_ne (fun H locs ls tgt ht kt kf => lv_icmp_ne hexec hb hdg ht kt (fun z => kf (fun y => y z))) h hk
    · exact ycfork_s yccd_lt (fun H locs ls tgt ht kt kf => lv_icmp_lt hexec hb hdg ht kt kf) h hk
    · exact ycfork_s yccd_ge (fun H locs ls tgt ht kt kf => lv_icmp_ge hexec hb hdg ht kt kf) h hk
    · exact ycfork_s yccd_gt (fun H locs ls tgt ht kt kf => lv_icmp_gt hexec hb hdg ht kt kf) h hk
    · exact ycfork_s yccd_le (fun H locs ls tgt ht kt kf => lv_icmp_le hexec hb hdg ht kt kf) h hk
  · cases h
theorem ycjmp_s {off : Int} {n : Nat} (h : ycjmp pc off lv st g = some (fr2, g2)) : ∃ n : Nat, (pc : Int) + off = (n : Int) ∧ ycgo n lv st g = some (fr2, g2) := by
  unfold ycjmp at h
  split at h
  · rename_i n hn9
    exact ⟨n, yctgt_s hn9, h⟩
  · cases h
theorem yctsw_s {d lo hi : Int} {offs : Array Int} (hexec : p.tables.exec = Jvm.exec) (hb : c.code = cc) (hdg : decode cc pc = .ok (.tableswitch d lo hi offs, len)) (h : yctsw pc d lo hi offs lv st g = some (fr2, g2)) (hk : ychold p l e R s m args below meth c Q cl D A tc ad oa nL cells slots fr2 g2) : ychold p l e R s m args below meth c Q cl D A tc ad oa nL cells slots (pc, lv, st) g := by
  unfold yctsw at h
  split at h
  · rename_i k t
    cases hq : decide (y32 k < lo) || decide (hi < y32 k) with
    | true =>
      rw [hq] at h
      rw [Bool.or_eq_true, decide_eq_true_iff, decide_eq_true_iff] at hq
      obtain ⟨n, hn, hg⟩ := ycjmp_s (n := 0) h
      have hgo := ycgo_s hg hk
      intro H locs ls hP hD hS hm hl
      exact lv_tableOut hexec hb hdg (by show y32 k < lo ∨ hi < y32 k; exact hq) hn (hgo H locs ls hP hD hS hm hl)
    | false =>
      rw [hq] at h
      rw [Bool.or_eq_false_iff, decide_eq_false_iff_not, decide_eq_false_iff_not] at hq
      change (match offs[(y32 k - lo).toNat]? with | some off => ycjmp pc off lv t g | none => none) = some (fr2, g2) at h
      split at h
      · rename_i off hoff
        obtain ⟨n, hn, hg⟩ := ycjmp_s (n := 0) h
        have hgo := ycgo_s hg hk
        intro H locs ls hP hD hS hm hl
        exact lv_tableIn hexec hb hdg (by show ¬ y32 k < lo; exact hq.1) (by show ¬ hi < y32 k; exact hq.2) hoff hn (hgo H locs ls hP hD hS hm hl)
      · cases h
  · cases h
theorem yclsw_s {d : Int} {ps : Array (Int × Int)} (hexec : p.tables.exec = Jvm.exec) (hb : c.code = cc) (hdg : decode cc pc = .ok (.lookupswitch d ps, len)) (h : yclsw pc d ps lv st g = some (fr2, g2)) (hk : ychold p l e R s m args below meth c Q cl D A tc ad oa nL cells slots fr2 g2) : ychold p l e R s m args below meth c Q cl D A tc ad oa nL cells slots (pc, lv, st) g := by
  unfold yclsw at h
  split at h
  · rename_i k t
    cases hq : (ps.toList.zip (ps.toList.drop 1)).all (fun (a, next) => a.1 < next.1) with
    | false => rw [hq] at h; cases h
    | true =>
      rw [hq] at h
      obtain ⟨n, hn, hg⟩ := ycjmp_s (n := 0) h
      have hgo := ycgo_s hg hk
      intro H locs ls hP hD hS hm hl
      exact lv_lookup hexec hb hdg hq rfl hn (hgo H locs ls hP hD hS hm hl)
  · cases h
end YC3
