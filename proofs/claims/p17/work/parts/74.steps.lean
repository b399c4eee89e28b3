noncomputable section EZ4
/-! E2: steps of words and tests -/
variable {Q : ezR → Prop} {T : ycT} {r : ezR} {F : xF}
abbrev ezK_ := xF → xFm → ezHp → Bool
def ezdv (r : ezR) (v : xV) : ycV := (v.1, ezden r v.2)
def ezdl (r : ezR) (l : List (Nat × xV)) : List (Nat × ycV) := l.map fun q => (q.1, ezdv r q.2)
theorem ezlget_s (r : ezR) : ∀ (l : List (Nat × xV)) (i : Nat), yclget (ezdl r l) i = (xlget l i).map (ezdv r) := by
  intro l i
  induction l with
  | nil => rfl
  | cons q l ih =>
    show (bif Nat.beq q.1 i then some (ezdv r q.2) else yclget (ezdl r l) i) = (bif Nat.beq q.1 i then some q.2 else xlget l i).map (ezdv r)
    cases Nat.beq q.1 i with
    | true => rfl
    | false => exact ih
theorem ezst1_s {r : ezR} {l : List (Nat × xV)} {i : Nat} {v : xV} {k : List (Nat × xV) → Bool} (h : xst1 l i v k = true) : ∃ l2, k l2 = true ∧ ezdl r l2 = ycst1 (ezdl r l) i (ezdv r v) := by
  unfold xst1 at h
  rw [xfil_s] at h
  refine ⟨_, h, ?_⟩
  unfold ycst1 ezdl
  rw [List.map_cons, List.filter_map]
  rfl
theorem ezst2_s {r : ezR} {l : List (Nat × xV)} {i : Nat} {v : xV} {k : List (Nat × xV) → Bool} (h : xst2 l i v k = true) : ∃ l2, k l2 = true ∧ ezdl r l2 = ycst2 (ezdl r l) i (ezdv r v) := by
  unfold xst2 at h
  rw [xfil_s] at h
  refine ⟨_, h, ?_⟩
  unfold ycst2 ezdl
  rw [List.map_cons, List.filter_map]
  rfl
theorem ezdr_s {r : ezR} {l : List (Nat × xV)} {i : Nat} {k : List (Nat × xV) → Bool} (h : xdr l i k = true) : ∃ l2, k l2 = true ∧ ezdl r l2 = ycdrop (ezdl r l) i := by
  unfold xdr at h
  rw [xfil_s] at h
  refine ⟨_, h, ?_⟩
  unfold ycdrop ezdl
  rw [List.filter_map]
  rfl
def ezdF (r : ezR) (f : xFm) : ycF := (f.1, ezdl r f.2.1, f.2.2.map (ezdv r))
/-- a symbolic step is a step of the clean machine -/
def ezsnd (T : ycT) (Q : ezR → Prop) (r : ezR) (X : ezK_ → Bool) (R : ycR) : Prop := ∀ k : ezK_, X k = true → ∃ F2 fr2 g2, ezH Q r F2 ∧ k F2 fr2 g2 = true ∧ R = some (ezdF r fr2, ezhp T r g2)
def ezgo (F : xF) (pc : Nat) (lv : List (Nat × xV)) (st : List xV) (g : ezHp) (k : ezK_) : Bool := k F (pc, lv, st) g
theorem ezgo_s (H : ezH Q r F) {pc : Nat} {lv : List (Nat × xV)} {st : List xV} {g : ezHp} : ezsnd T Q r (ezgo F pc lv st g) (ycgo pc (ezdl r lv) (st.map (ezdv r)) (ezhp T r g)) := fun k hk => ⟨F, _, _, H, hk, rfl⟩
def ezI2 (f : xF → xjE → xjE → xjE) (F : xF) (pc : Nat) (lv : List (Nat × xV)) (st : List xV) (g : ezHp) (k : ezK_) : Bool := match st with
  | (0, b) :: (0, a) :: t => xfe (f F a b) (fun e => k F (pc + 1, lv, (0, e) :: t) g)
  | _ => false
def ezL2 (f : xF → xjE → xjE → xjE) (F : xF) (pc : Nat) (lv : List (Nat × xV)) (st : List xV) (g : ezHp) (k : ezK_) : Bool := match st with
  | (1, b) :: (1, a) :: t => xfe (f F a b) (fun e => k F (pc + 1, lv, (1, e) :: t) g)
  | _ => false
def ezLI (f : xF → xjE → xjE → xjE) (F : xF) (pc : Nat) (lv : List (Nat × xV)) (st : List xV) (g : ezHp) (k : ezK_) : Bool := match st with
  | (0, b) :: (1, a) :: t => xfe (f F a b) (fun e => k F (pc + 1, lv, (1, e) :: t) g)
  | _ => false
theorem ezI2_s {f : xF → xjE → xjE → xjE} {fc : Int → Int → Int} (H : ezH Q r F) (hf : ∀ a b, ezden r (f F a b) = fc (ezden r a) (ezden r b)) {pc : Nat} {lv : List (Nat × xV)} {st : List xV} {g : ezHp} : ezsnd T Q r (ezI2 f F pc lv st g) (ycI2 fc pc (ezdl r lv) (st.map (ezdv r)) (ezhp T r g)) := by
  intro k hk
  unfold ezI2 at hk
  split at hk
  · rename_i b a t
    rw [xfe_s] at hk
    refine ⟨F, _, _, H, hk, ?_⟩
    show some ((pc + 1, ezdl r lv, (0, fc (ezden r a) (ezden r b)) :: t.map (ezdv r)), _) = some ((pc + 1, ezdl r lv, (0, ezden r (f F a b)) :: t.map (ezdv r)), _)
    rw [hf]
  · cases hk
theorem ezL2_s {f : xF → xjE → xjE → xjE} {fc : Int → Int → Int} (H : ezH Q r F) (hf : ∀ a b, ezden r (f F a b) = fc (ezden r a) (ezden r b)) {pc : Nat} {lv : List (Nat × xV)} {st : List xV} {g : ezHp} : ezsnd T Q r (ezL2 f F pc lv st g) (ycL2 fc pc (ezdl r lv) (st.map (ezdv r)) (ezhp T r g)) := by
  intro k hk
  unfold ezL2 at hk
  split at hk
  · rename_i b a t
    rw [xfe_s] at hk
    refine ⟨F, _, _, H, hk, ?_⟩
    show some ((pc + 1, ezdl r lv, (1, fc (ezden r a) (ezden r b)) :: t.map (ezdv r)), _) = some ((pc + 1, ezdl r lv, (1, ezden r (f F a b)) :: t.map (ezdv r)), _)
    rw [hf]
  · cases hk
theorem ezLI_s {f : xF → xjE → xjE → xjE} {fc : Int → Int → Int} (H : ezH Q r F) (hf : ∀ a b, ezden r (f F a b) = fc (ezden r a) (ezden r b)) {pc : Nat} {lv : List (Nat × xV)} {st : List xV} {g : ezHp} : ezsnd T Q r (ezLI f F pc lv st g) (ycLI fc pc (ezdl r lv) (st.map (ezdv r)) (ezhp T r g)) := by
  intro k hk
  unfold ezLI at hk
  split at hk
  · rename_i b a t
    rw [xfe_s] at hk
    refine ⟨F, _, _, H, hk, ?_⟩
    show some ((pc + 1, ezdl r lv, (1, fc (ezden r a) (ezden r b)) :: t.map (ezdv r)), _) = some ((pc + 1, ezdl r lv, (1, ezden r (f F a b)) :: t.map (ezdv r)), _)
    rw [hf]
  · cases hk
def ezload (n : Nat) (F : xF) (pc i : Nat) (lv : List (Nat × xV)) (st : List xV) (g : ezHp) (k : ezK_) : Bool := match xlget lv i with
  | some (0, e) => Nat.beq n 0 && k F (pc, lv, (0, e) :: st) g
  | some (1, e) => Nat.beq n 1 && k F (pc, lv, (1, e) :: st) g
  | some (2, e) => Nat.beq n 2 && k F (pc, lv, (2, e) :: st) g
  | some (4, e) => Nat.beq n 2 && k F (pc, lv, (4, e) :: st) g
  | _ => false
theorem ezload_s (H : ezH Q r F) {n pc i : Nat} {lv : List (Nat × xV)} {st : List xV} {g : ezHp} : ezsnd T Q r (ezload n F pc i lv st g) (ycload n pc i (ezdl r lv) (st.map (ezdv r)) (ezhp T r g)) := by
  intro k hk
  unfold ezload at hk
  unfold ycload
  rw [ezlget_s]
  split at hk
  · rename_i e he
    rw [Bool.and_eq_true] at hk
    rw [he]
    refine ⟨F, _, _, H, hk.2, ?_⟩
    show (bif Nat.beq n _ then ycgo pc (ezdl r lv) ((0, ezden r e) :: st.map (ezdv r)) _ else none) = some ((pc, ezdl r lv, (0, ezden r e) :: st.map (ezdv r)), _)
    rw [hk.1]
    rfl
  · rename_i e he
    rw [Bool.and_eq_true] at hk
    rw [he]
    refine ⟨F, _, _, H, hk.2, ?_⟩
    show (bif Nat.beq n _ then ycgo pc (ezdl r lv) ((1, ezden r e) :: st.map (ezdv r)) _ else none) = some ((pc, ezdl r lv, (1, ezden r e) :: st.map (ezdv r)), _)
    rw [hk.1]
    rfl
  all_goals first
    | (rename_i e he
       rw [Bool.and_eq_true] at hk
       rw [he]
       refine ⟨F, _, _, H, hk.2, ?_⟩
       show (bif Nat.beq n _ then _ else none) = _
       rw [hk.1]
       rfl)
    | cases hk
def ezstore (nL n : Nat) (F : xF) (pc i : Nat) (lv : List (Nat × xV)) (st : List xV) (g : ezHp) (k : ezK_) : Bool := match st with
  | (0, e) :: t => (Nat.beq n 0 && Nat.blt i nL) && xst1 lv i (0, e) (fun l => k F (pc, l, t) g)
  | (1, e) :: t => (Nat.beq n 1 && Nat.blt (i + 1) nL) && xst2 lv i (1, e) (fun l => k F (pc, l, t) g)
  | (2, e) :: t => (Nat.beq n 2 && Nat.blt i nL) && xst1 lv i (2, e) (fun l => k F (pc, l, t) g)
  | (4, e) :: t => (Nat.beq n 2 && Nat.blt i nL) && xst1 lv i (4, e) (fun l => k F (pc, l, t) g)
  | _ => false
theorem ezstore_s (H : ezH Q r F) {nL n pc i : Nat} {lv : List (Nat × xV)} {st : List xV} {g : ezHp} : ezsnd T Q r (ezstore nL n F pc i lv st g) (ycstore nL n pc i (ezdl r lv) (st.map (ezdv r)) (ezhp T r g)) := by
  intro k hk
  unfold ezstore at hk
  split at hk
  · rename_i e t
    rw [Bool.and_eq_true] at hk
    obtain ⟨l2, h1, h2⟩ := ezst1_s (r := r) hk.2
    refine ⟨F, _, _, H, h1, ?_⟩
    show (bif Nat.beq n 0 && Nat.blt i nL then ycgo pc (ycst1 (ezdl r lv) i (ezdv r (0, e))) (t.map (ezdv r)) _ else none) = some ((pc, ezdl r l2, _), _)
    rw [hk.1, h2]; rfl
  · rename_i e t
    rw [Bool.and_eq_true] at hk
    obtain ⟨l2, h1, h2⟩ := ezst2_s (r := r) hk.2
    refine ⟨F, _, _, H, h1, ?_⟩
    show (bif Nat.beq n 1 && Nat.blt (i + 1) nL then ycgo pc (ycst2 (ezdl r lv) i (ezdv r (1, e))) (t.map (ezdv r)) _ else none) = some ((pc, ezdl r l2, _), _)
    rw [hk.1, h2]; rfl
  · rename_i e t
    rw [Bool.and_eq_true] at hk
    obtain ⟨l2, h1, h2⟩ := ezst1_s (r := r) hk.2
    refine ⟨F, _, _, H, h1, ?_⟩
    show (bif Nat.beq n 2 && Nat.blt i nL then ycgo pc (ycst1 (ezdl r lv) i (ezdv r (2, e))) (t.map (ezdv r)) _ else none) = some ((pc, ezdl r l2, _), _)
    rw [hk.1, h2]; rfl
  · rename_i e t
    rw [Bool.and_eq_true] at hk
    obtain ⟨l2, h1, h2⟩ := ezst1_s (r := r) hk.2
    refine ⟨F, _, _, H, h1, ?_⟩
    show (bif Nat.beq n 2 && Nat.blt i nL then ycgo pc (ycst1 (ezdl r lv) i (ezdv r (4, e))) (t.map (ezdv r)) _ else none) = some ((pc, ezdl r l2, _), _)
    rw [hk.1, h2]; rfl
  · cases hk
def ezinc (nL : Nat) (F : xF) (pc i : Nat) (c : Int) (lv : List (Nat × xV)) (st : List xV) (g : ezHp) (k : ezK_) : Bool := match xlget lv i with
  | some (0, e) => Nat.blt i nL && xfe (ezadd F e (.num c)) (fun e => xst1 lv i (0, e) (fun l => k F (pc + 3, l, st) g))
  | _ => false
theorem ezinc_s (H : ezH Q r F) {nL pc i : Nat} {c : Int} {lv : List (Nat × xV)} {st : List xV} {g : ezHp} : ezsnd T Q r (ezinc nL F pc i c lv st g) (ycinc nL pc i c (ezdl r lv) (st.map (ezdv r)) (ezhp T r g)) := by
  intro k hk
  unfold ezinc at hk
  unfold ycinc
  rw [ezlget_s]
  split at hk
  · rename_i e he
    rw [Bool.and_eq_true, xfe_s] at hk
    obtain ⟨l2, h1, h2⟩ := ezst1_s (r := r) hk.2
    rw [he]
    refine ⟨F, _, _, H, h1, ?_⟩
    show (bif Nat.blt i nL then ycgo (pc + 3) (ycst1 (ezdl r lv) i (0, y32 (ezden r e + c))) _ _ else none) = some ((pc + 3, ezdl r l2, _), _)
    have e2 : ezdv r (0, ezadd F e (.num c)) = (0, y32 (ezden r e + c)) := by
      show (0, ezden r (ezadd F e (.num c))) = _
      rw [ezadd_s H]; rfl
    rw [hk.1, h2, e2]; rfl
  · cases hk
/-- not null -/
def eznz (F : xF) (b : xjE) : Bool := (xle 1 (eziv F b).1 || xle (eziv F b).2 (-1)) || (ezblo F b 1 || ezbhi F b (-1))
theorem eznz_s (H : ezH Q r F) {b : xjE} (h : eznz F b = true) : ezden r b ≠ 0 := by
  unfold eznz at h
  rw [Bool.or_eq_true, Bool.or_eq_true, Bool.or_eq_true, xle_iff, xle_iff] at h
  have := eziv_s H b
  rcases h with h | h | h
  · omega
  · have := ezblo_s H h; omega
  · have := ezbhi_s H h; omega
def ezdiv (n : Nat) (F : xF) (pc : Nat) (lv : List (Nat × xV)) (st : List xV) (g : ezHp) (k : ezK_) : Bool := match st with
  | (0, b) :: (0, a) :: t => ezin32 F b && (eznz F b && xfe (ezdm F (16 + n) a b) (fun e => k F (pc + 1, lv, (0, e) :: t) g))
  | _ => false
theorem ezdiv_s (H : ezH Q r F) {n : Nat} (hn : n < 16) {pc : Nat} {lv : List (Nat × xV)} {st : List xV} {g : ezHp} : ezsnd T Q r (ezdiv n F pc lv st g) (ycdiv n pc (ezdl r lv) (st.map (ezdv r)) (ezhp T r g)) := by
  intro k hk
  unfold ezdiv at hk
  split at hk
  · rename_i b a t
    rw [Bool.and_eq_true, Bool.and_eq_true, xfe_s] at hk
    refine ⟨F, _, _, H, hk.2.2, ?_⟩
    have h0 := eznz_s H hk.2.1
    show (bif decide (y32 (ezden r b) = 0) then none else ycgo (pc + 1) (ezdl r lv) ((0, ycI n (ezden r a) (ezden r b)) :: t.map (ezdv r)) _) = some ((pc + 1, ezdl r lv, (0, ezden r (ezdm F (16 + n) a b)) :: t.map (ezdv r)), _)
    rw [ezin32_s H hk.1, decide_eq_false h0, ezdm_s H]
    have e : xop (16 + n) (ezden r a) (ezden r b) = ycI n (ezden r a) (ezden r b) := by
      unfold xop
      rw [show (16 + n) / 16 = 1 by omega, show (16 + n) % 16 = n by omega]
      rfl
    rw [e]; rfl
  · cases hk
def ezin64 (F : xF) (a : xjE) : Bool := xle (-9223372036854775808) (eziv F a).1 && xle (eziv F a).2 9223372036854775807
theorem ezin64_s (H : ezH Q r F) {a : xjE} (h : ezin64 F a = true) : y64 (ezden r a) = ezden r a := by
  unfold ezin64 at h
  rw [Bool.and_eq_true, xle_iff, xle_iff] at h
  have := eziv_s H a
  exact y64_id (by omega) (by omega)
def ezldiv (n : Nat) (F : xF) (pc : Nat) (lv : List (Nat × xV)) (st : List xV) (g : ezHp) (k : ezK_) : Bool := match st with
  | (1, b) :: (1, a) :: t => ezin64 F b && (eznz F b && xfe (ezdm F (32 + n) a b) (fun e => k F (pc + 1, lv, (1, e) :: t) g))
  | _ => false
theorem ezldiv_s (H : ezH Q r F) {n : Nat} (hn : n < 16) {pc : Nat} {lv : List (Nat × xV)} {st : List xV} {g : ezHp} : ezsnd T Q r (ezldiv n F pc lv st g) (ycldiv n pc (ezdl r lv) (st.map (ezdv r)) (ezhp T r g)) := by
  intro k hk
  unfold ezldiv at hk
  split at hk
  · rename_i b a t
    rw [Bool.and_eq_true, Bool.and_eq_true, xfe_s] at hk
    refine ⟨F, _, _, H, hk.2.2, ?_⟩
    have h0 := eznz_s H hk.2.1
    show (bif decide (y64 (ezden r b) = 0) then none else ycgo (pc + 1) (ezdl r lv) ((1, ycJ n (ezden r a) (ezden r b)) :: t.map (ezdv r)) _) = some ((pc + 1, ezdl r lv, (1, ezden r (ezdm F (32 + n) a b)) :: t.map (ezdv r)), _)
    rw [ezin64_s H hk.1, decide_eq_false h0, ezdm_s H]
    have e : xop (32 + n) (ezden r a) (ezden r b) = ycJ n (ezden r a) (ezden r b) := by
      unfold xop
      rw [show (32 + n) / 16 = 2 by omega, show (32 + n) % 16 = n by omega]
      rfl
    rw [e]; rfl
  · cases hk
/-- an operation of one -/
def ezI1 (t1 t2 : Nat) (f : xF → xjE → xjE) (F : xF) (pc : Nat) (lv : List (Nat × xV)) (st : List xV) (g : ezHp) (k : ezK_) : Bool := match st with
  | (t0, a) :: t => Nat.beq t0 t1 && xfe (f F a) (fun e => k F (pc + 1, lv, (t2, e) :: t) g)
  | _ => false
theorem ezneg_s (H : ezH Q r F) {pc : Nat} {lv : List (Nat × xV)} {st : List xV} {g : ezHp} : ezsnd T Q r (ezI1 0 0 (fun _ a => xun 0 a) F pc lv st g) (ycneg pc (ezdl r lv) (st.map (ezdv r)) (ezhp T r g)) := by
  intro k hk
  unfold ezI1 at hk
  split at hk
  · rename_i t0 a t
    rw [Bool.and_eq_true, xfe_s] at hk
    have e := Nat.eq_of_beq_eq_true hk.1
    subst e
    refine ⟨F, _, _, H, hk.2, ?_⟩
    show some ((pc + 1, ezdl r lv, (0, y32 (- ezden r a)) :: t.map (ezdv r)), _) = some ((pc + 1, ezdl r lv, (0, ezden r (xun 0 a)) :: t.map (ezdv r)), _)
    rw [ezun_s, ← xw_s]; rfl
  · cases hk
theorem ezi2l_s (H : ezH Q r F) {pc : Nat} {lv : List (Nat × xV)} {st : List xV} {g : ezHp} : ezsnd T Q r (ezI1 0 1 ezto32 F pc lv st g) (yci2l pc (ezdl r lv) (st.map (ezdv r)) (ezhp T r g)) := by
  intro k hk
  unfold ezI1 at hk
  split at hk
  · rename_i t0 a t
    rw [Bool.and_eq_true, xfe_s] at hk
    have e := Nat.eq_of_beq_eq_true hk.1
    subst e
    refine ⟨F, _, _, H, hk.2, ?_⟩
    show some ((pc + 1, ezdl r lv, (1, y32 (ezden r a)) :: t.map (ezdv r)), _) = some ((pc + 1, ezdl r lv, (1, ezden r (ezto32 F a)) :: t.map (ezdv r)), _)
    rw [ezto32_s H]
  · cases hk
theorem ezl2i_s (H : ezH Q r F) {pc : Nat} {lv : List (Nat × xV)} {st : List xV} {g : ezHp} : ezsnd T Q r (ezI1 1 0 ezto32 F pc lv st g) (ycl2i pc (ezdl r lv) (st.map (ezdv r)) (ezhp T r g)) := by
  intro k hk
  unfold ezI1 at hk
  split at hk
  · rename_i t0 a t
    rw [Bool.and_eq_true, xfe_s] at hk
    have e := Nat.eq_of_beq_eq_true hk.1
    subst e
    refine ⟨F, _, _, H, hk.2, ?_⟩
    show some ((pc + 1, ezdl r lv, (0, y32 (ezden r a)) :: t.map (ezdv r)), _) = some ((pc + 1, ezdl r lv, (0, ezden r (ezto32 F a)) :: t.map (ezdv r)), _)
    rw [ezto32_s H]
  · cases hk
def ezlcmp (F : xF) (pc : Nat) (lv : List (Nat × xV)) (st : List xV) (g : ezHp) (k : ezK_) : Bool := match st with
  | (1, b) :: (1, a) :: t => xfe (xbin 64 a b) (fun e => k F (pc + 1, lv, (0, e) :: t) g)
  | _ => false
theorem ezlcmp_s (H : ezH Q r F) {pc : Nat} {lv : List (Nat × xV)} {st : List xV} {g : ezHp} : ezsnd T Q r (ezlcmp F pc lv st g) (yclcmp pc (ezdl r lv) (st.map (ezdv r)) (ezhp T r g)) := by
  intro k hk
  unfold ezlcmp at hk
  split at hk
  · rename_i b a t
    rw [xfe_s] at hk
    refine ⟨F, _, _, H, hk, ?_⟩
    show some ((pc + 1, ezdl r lv, (0, bif decide (y64 (ezden r b) < y64 (ezden r a)) then 1 else bif decide (y64 (ezden r a) = y64 (ezden r b)) then 0 else -1) :: t.map (ezdv r)), _) = some ((pc + 1, ezdl r lv, (0, ezden r (xbin 64 a b)) :: t.map (ezdv r)), _)
    rw [ezbin_s]; rfl
  · cases hk
def ezdup (F : xF) (pc : Nat) (lv : List (Nat × xV)) (st : List xV) (g : ezHp) (k : ezK_) : Bool := match st with
  | v :: t => !(Nat.beq v.1 1) && k F (pc + 1, lv, v :: v :: t) g
  | _ => false
theorem ezdup_s (H : ezH Q r F) {pc : Nat} {lv : List (Nat × xV)} {st : List xV} {g : ezHp} : ezsnd T Q r (ezdup F pc lv st g) (ycdup pc (ezdl r lv) (st.map (ezdv r)) (ezhp T r g)) := by
  intro k hk
  unfold ezdup at hk
  split at hk
  · rename_i v t
    rw [Bool.and_eq_true] at hk
    refine ⟨F, _, _, H, hk.2, ?_⟩
    show (bif Nat.beq v.1 1 then none else _) = _
    rw [xbnot hk.1]; rfl
  · cases hk
def ezdup2 (F : xF) (pc : Nat) (lv : List (Nat × xV)) (st : List xV) (g : ezHp) (k : ezK_) : Bool := match st with
  | v :: w :: t => !(Nat.beq v.1 1 || Nat.beq w.1 1) && k F (pc + 1, lv, v :: w :: v :: w :: t) g
  | _ => false
theorem ezdup2_s (H : ezH Q r F) {pc : Nat} {lv : List (Nat × xV)} {st : List xV} {g : ezHp} : ezsnd T Q r (ezdup2 F pc lv st g) (ycdup2 pc (ezdl r lv) (st.map (ezdv r)) (ezhp T r g)) := by
  intro k hk
  unfold ezdup2 at hk
  split at hk
  · rename_i v w t
    rw [Bool.and_eq_true] at hk
    refine ⟨F, _, _, H, hk.2, ?_⟩
    show (bif Nat.beq v.1 1 || Nat.beq w.1 1 then none else _) = _
    rw [xbnot hk.1]; rfl
  · cases hk
def ezpop (F : xF) (pc : Nat) (lv : List (Nat × xV)) (st : List xV) (g : ezHp) (k : ezK_) : Bool := match st with
  | v :: t => !(Nat.beq v.1 1) && k F (pc + 1, lv, t) g
  | _ => false
theorem ezpop_s (H : ezH Q r F) {pc : Nat} {lv : List (Nat × xV)} {st : List xV} {g : ezHp} : ezsnd T Q r (ezpop F pc lv st g) (ycpop pc (ezdl r lv) (st.map (ezdv r)) (ezhp T r g)) := by
  intro k hk
  unfold ezpop at hk
  split at hk
  · rename_i v t
    rw [Bool.and_eq_true] at hk
    refine ⟨F, _, _, H, hk.2, ?_⟩
    show (bif Nat.beq v.1 1 then none else _) = _
    rw [xbnot hk.1]; rfl
  · cases hk
def ezjmp (F : xF) (pc : Nat) (off : Int) (lv : List (Nat × xV)) (st : List xV) (g : ezHp) (k : ezK_) : Bool := match yctgt pc off with
  | some n => k F (n, lv, st) g
  | none => false
theorem ezjmp_s (H : ezH Q r F) {pc : Nat} {off : Int} {lv : List (Nat × xV)} {st : List xV} {g : ezHp} : ezsnd T Q r (ezjmp F pc off lv st g) (ycjmp pc off (ezdl r lv) (st.map (ezdv r)) (ezhp T r g)) := by
  intro k hk
  unfold ezjmp at hk
  split at hk
  · rename_i n e
    refine ⟨F, _, _, H, hk, ?_⟩
    unfold ycjmp
    rw [e]; rfl
  · cases hk
def ezfork (l : List (Bool × xF)) (pc : Nat) (off : Int) (lv : List (Nat × xV)) (st : List xV) (g : ezHp) (k : ezK_) : Bool := match yctgt pc off with
  | some n => l.all (fun q => (xtwo l && ezctra q.2) || (bif q.1 then k q.2 (n, lv, st) g else k q.2 (pc + 3, lv, st) g))
  | none => false
theorem ezfork_s {l : List (Bool × xF)} {b : Bool} (h : ∃ q ∈ l, ezH Q r q.2 ∧ (q.1 = true ↔ b = true)) {pc : Nat} {off : Int} {lv : List (Nat × xV)} {st : List xV} {g : ezHp} : ezsnd T Q r (ezfork l pc off lv st g) (ycfork pc off b (ezdl r lv) (st.map (ezdv r)) (ezhp T r g)) := by
  intro k hk
  unfold ezfork at hk
  split at hk
  · rename_i n e
    obtain ⟨q, hq, hH, hb⟩ := h
    have h1 := List.all_eq_true.mp hk q hq
    rw [ezctra_s hH, Bool.and_false, Bool.false_or] at h1
    have e2 : q.1 = b := by
      cases h3 : q.1 <;> cases b <;> simp_all
    unfold ycfork
    rw [e]
    rw [e2] at h1
    cases b with
    | true => exact ⟨q.2, _, _, hH, h1, rfl⟩
    | false => exact ⟨q.2, _, _, hH, h1, rfl⟩
  · cases hk
/-- ends of a comparison with 0; one of two longs is seen through -/
def eztest0 (F : xF) (c : ClassFile.Cond) (a : xjE) : List (Bool × xF) := match a with
  | .pow (.add x y) 64 => bif ezin64 F x && ezin64 F y then eztest F c x y else eztest F c a (.num 0)
  | a => eztest F c a (.num 0)
theorem eztest0_s (H : ezH Q r F) (c : ClassFile.Cond) (a : xjE) : ∃ q ∈ eztest0 F c a, ezH Q r q.2 ∧ (q.1 = true ↔ yccd c (ezden r a) 0 = true) := by
  unfold eztest0
  split
  · rename_i x y
    cases h : ezin64 F x && ezin64 F y with
    | true =>
      rw [Bool.and_eq_true] at h
      refine ezcg (eztest_s H c x y) ?_
      rw [← xcmp0 c (ezin64_s H h.1) (ezin64_s H h.2)]; rfl
    | false => exact eztest_s H c _ (.num 0)
  · exact eztest_s H c _ (.num 0)
def ezif (c : ClassFile.Cond) (F : xF) (pc : Nat) (off : Int) (lv : List (Nat × xV)) (st : List xV) (g : ezHp) (k : ezK_) : Bool := match st with
  | (0, a) :: t => ezin32 F a && ezfork (eztest0 F c a) pc off lv t g k
  | _ => false
theorem ezif_s (H : ezH Q r F) {c : ClassFile.Cond} {pc : Nat} {off : Int} {lv : List (Nat × xV)} {st : List xV} {g : ezHp} : ezsnd T Q r (ezif c F pc off lv st g) (ycif c pc off (ezdl r lv) (st.map (ezdv r)) (ezhp T r g)) := by
  intro k hk
  unfold ezif at hk
  split at hk
  · rename_i a t
    rw [Bool.and_eq_true] at hk
    have := ezfork_s (T := T) (eztest0_s H c a) k hk.2
    rw [← ezin32_s H hk.1] at this
    exact this
  · cases hk
def ezicm (c : ClassFile.Cond) (F : xF) (pc : Nat) (off : Int) (lv : List (Nat × xV)) (st : List xV) (g : ezHp) (k : ezK_) : Bool := match st with
  | (0, b) :: (0, a) :: t => ezin32 F a && (ezin32 F b && ezfork (eztest F c a b) pc off lv t g k)
  | _ => false
theorem ezicm_s (H : ezH Q r F) {c : ClassFile.Cond} {pc : Nat} {off : Int} {lv : List (Nat × xV)} {st : List xV} {g : ezHp} : ezsnd T Q r (ezicm c F pc off lv st g) (ycicm c pc off (ezdl r lv) (st.map (ezdv r)) (ezhp T r g)) := by
  intro k hk
  unfold ezicm at hk
  split at hk
  · rename_i b a t
    rw [Bool.and_eq_true, Bool.and_eq_true] at hk
    have := ezfork_s (T := T) (eztest_s H c a b) k hk.2.2
    rw [← ezin32_s H hk.1, ← ezin32_s H hk.2.1] at this
    exact this
  · cases hk
def ezac (c : ClassFile.ACond) (l : List (Bool × xF)) : List (Bool × xF) := match c with
  | .eq => l
  | .ne => xnot l
def ezacm (c : ClassFile.ACond) (F : xF) (pc : Nat) (off : Int) (lv : List (Nat × xV)) (st : List xV) (g : ezHp) (k : ezK_) : Bool := match st with
  | (2, b) :: (2, a) :: t => ezcell F a (fun _ => true) && (ezcell F b (fun _ => true) && ezfork (ezac c (eztest F .eq a b)) pc off lv t g k)
  | _ => false
theorem ezacm_s (H : ezH Q r F) {c : ClassFile.ACond} {pc : Nat} {off : Int} {lv : List (Nat × xV)} {st : List xV} {g : ezHp} : ezsnd T Q r (ezacm c F pc off lv st g) (ycacm c pc off (ezdl r lv) (st.map (ezdv r)) (ezhp T r g)) := by
  intro k hk
  unfold ezacm at hk
  split at hk
  · rename_i b a t
    rw [Bool.and_eq_true, Bool.and_eq_true] at hk
    obtain ⟨a1, a2, -⟩ := ezcell_s H hk.1
    obtain ⟨b1, b2, -⟩ := ezcell_s H hk.2.1
    have e : Nat.beq (ezden r a).toNat (ezden r b).toNat = decide (ezden r a = ezden r b) := by
      by_cases h : ezden r a = ezden r b
      · rw [decide_eq_true h, h, Nat.beq_refl]
      · rw [decide_eq_false h, ycbne (by omega)]
    have h1 : ∃ q ∈ ezac c (eztest F .eq a b), ezH Q r q.2 ∧ (q.1 = true ↔ xac c (ezden r a).toNat (ezden r b).toNat = true) := by
      cases c with
      | eq => exact ezcg (eztest_s H .eq a b) (by show yccd .eq _ _ = true ↔ Nat.beq _ _ = true; rw [e]; exact Iff.rfl)
      | ne => exact ezcg (eznot_s (eztest_s H .eq a b)) (by
          show ¬ (decide (ezden r a = ezden r b) = true) ↔ (!(Nat.beq _ _)) = true
          rw [e]
          cases decide (ezden r a = ezden r b) <;> simp)
    obtain ⟨F2, fr2, g2, c1, c2, c3⟩ := ezfork_s (T := T) h1 k hk.2.2
    refine ⟨F2, fr2, g2, c1, c2, ?_⟩
    show (bif Nat.blt (ezden r a).toNat 512 && Nat.blt (ezden r b).toNat 512 then _ else none) = _
    rw [ycblt a2, ycblt b2]
    cases c with
    | eq => exact c3
    | ne => exact c3
  · cases hk
end EZ4
