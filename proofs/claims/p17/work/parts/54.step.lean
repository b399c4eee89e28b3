noncomputable section YT4
/-! SYMBOLIC RUNS: one step -/
abbrev xK := xF → xFm → xHp → Bool
/-- a symbolic step is a step of the clean machine -/
def xsnd (T : ycT) (r : Nat → Int) (X : xK → Bool) (R : ycR) : Prop := ∀ k : xK, X k = true → ∃ F2 fr2 g2, xH r F2 ∧ k F2 fr2 g2 = true ∧ R = some (xdF r fr2, xdH T r g2)
variable {T : ycT} {r : Nat → Int} {F : xF}
/-- arrays that were there before: length, elements -/
abbrev xO := Nat → xjE × (Nat → xjE)
def xolok (r : Nat → Int) (old : Nat → Nat × (Nat → Int)) (ol : xO) : Prop := ∀ k, xden r (ol k).1 = ((old k).1 : Int) ∧ ∀ j, j < (old k).1 → xden r ((ol k).2 j) = (old k).2 j
def xgo (F : xF) (pc : Nat) (lv : List (Nat × xV)) (st : List xV) (g : xHp) (k : xK) : Bool := k F (pc, lv, st) g
theorem xgo_s (H : xH r F) {pc : Nat} {lv : List (Nat × xV)} {st : List xV} {g : xHp} : xsnd T r (xgo F pc lv st g) (ycgo pc (xdl r lv) (st.map (xdv r)) (xdH T r g)) := fun k hk => ⟨F, _, _, H, hk, rfl⟩
def xI2 (f : xF → xjE → xjE → xjE) (F : xF) (pc : Nat) (lv : List (Nat × xV)) (st : List xV) (g : xHp) (k : xK) : Bool := match st with
  | (0, b) :: (0, a) :: t => xfe (f F a b) (fun e => k F (pc + 1, lv, (0, e) :: t) g)
  | _ => false
def xL2 (f : xF → xjE → xjE → xjE) (F : xF) (pc : Nat) (lv : List (Nat × xV)) (st : List xV) (g : xHp) (k : xK) : Bool := match st with
  | (1, b) :: (1, a) :: t => xfe (f F a b) (fun e => k F (pc + 1, lv, (1, e) :: t) g)
  | _ => false
def xLI (f : xF → xjE → xjE → xjE) (F : xF) (pc : Nat) (lv : List (Nat × xV)) (st : List xV) (g : xHp) (k : xK) : Bool := match st with
  | (0, b) :: (1, a) :: t => xfe (f F a b) (fun e => k F (pc + 1, lv, (1, e) :: t) g)
  | _ => false
theorem xI2_s {f : xF → xjE → xjE → xjE} {fc : Int → Int → Int} (H : xH r F) (hf : ∀ a b, xden r (f F a b) = fc (xden r a) (xden r b)) {pc : Nat} {lv : List (Nat × xV)} {st : List xV} {g : xHp} : xsnd T r (xI2 f F pc lv st g) (ycI2 fc pc (xdl r lv) (st.map (xdv r)) (xdH T r g)) := by
  intro k hk
  unfold xI2 at hk
  split at hk
  · rename_i b a t
    rw [xfe_s] at hk
    refine ⟨F, _, _, H, hk, ?_⟩
    show some ((pc + 1, xdl r lv, (0, fc (xden r a) (xden r b)) :: t.map (xdv r)), _) = some ((pc + 1, xdl r lv, (0, xden r (f F a b)) :: t.map (xdv r)), _)
    rw [hf]
  · cases hk
theorem xL2_s {f : xF → xjE → xjE → xjE} {fc : Int → Int → Int} (H : xH r F) (hf : ∀ a b, xden r (f F a b) = fc (xden r a) (xden r b)) {pc : Nat} {lv : List (Nat × xV)} {st : List xV} {g : xHp} : xsnd T r (xL2 f F pc lv st g) (ycL2 fc pc (xdl r lv) (st.map (xdv r)) (xdH T r g)) := by
  intro k hk
  unfold xL2 at hk
  split at hk
  · rename_i b a t
    rw [xfe_s] at hk
    refine ⟨F, _, _, H, hk, ?_⟩
    show some ((pc + 1, xdl r lv, (1, fc (xden r a) (xden r b)) :: t.map (xdv r)), _) = some ((pc + 1, xdl r lv, (1, xden r (f F a b)) :: t.map (xdv r)), _)
    rw [hf]
  · cases hk
theorem xLI_s {f : xF → xjE → xjE → xjE} {fc : Int → Int → Int} (H : xH r F) (hf : ∀ a b, xden r (f F a b) = fc (xden r a) (xden r b)) {pc : Nat} {lv : List (Nat × xV)} {st : List xV} {g : xHp} : xsnd T r (xLI f F pc lv st g) (ycLI fc pc (xdl r lv) (st.map (xdv r)) (xdH T r g)) := by
  intro k hk
  unfold xLI at hk
  split at hk
  · rename_i b a t
    rw [xfe_s] at hk
    refine ⟨F, _, _, H, hk, ?_⟩
    show some ((pc + 1, xdl r lv, (1, fc (xden r a) (xden r b)) :: t.map (xdv r)), _) = some ((pc + 1, xdl r lv, (1, xden r (f F a b)) :: t.map (xdv r)), _)
    rw [hf]
  · cases hk
def xload (n : Nat) (F : xF) (pc i : Nat) (lv : List (Nat × xV)) (st : List xV) (g : xHp) (k : xK) : Bool := match xlget lv i with
  | some (0, e) => Nat.beq n 0 && xfe (xcon F e) (fun e => k F (pc, lv, (0, e) :: st) g)
  | some (1, e) => Nat.beq n 1 && xfe (xcon F e) (fun e => k F (pc, lv, (1, e) :: st) g)
  | some (2, e) => Nat.beq n 2 && k F (pc, lv, (2, e) :: st) g
  | some (4, e) => Nat.beq n 2 && k F (pc, lv, (4, e) :: st) g
  | _ => false
theorem xload_s (H : xH r F) {n pc i : Nat} {lv : List (Nat × xV)} {st : List xV} {g : xHp} : xsnd T r (xload n F pc i lv st g) (ycload n pc i (xdl r lv) (st.map (xdv r)) (xdH T r g)) := by
  intro k hk
  unfold xload at hk
  unfold ycload
  rw [xlget_s]
  split at hk
  · rename_i e he
    rw [Bool.and_eq_true, xfe_s] at hk
    rw [he]
    refine ⟨F, _, _, H, hk.2, ?_⟩
    show (bif Nat.beq n _ then ycgo pc (xdl r lv) ((0, xden r e) :: st.map (xdv r)) _ else none) = some ((pc, xdl r lv, (0, xden r (xcon F e)) :: st.map (xdv r)), _)
    rw [hk.1, xcon_s H]
    rfl
  · rename_i e he
    rw [Bool.and_eq_true, xfe_s] at hk
    rw [he]
    refine ⟨F, _, _, H, hk.2, ?_⟩
    show (bif Nat.beq n _ then ycgo pc (xdl r lv) ((1, xden r e) :: st.map (xdv r)) _ else none) = some ((pc, xdl r lv, (1, xden r (xcon F e)) :: st.map (xdv r)), _)
    rw [hk.1, xcon_s H]
    rfl
  all_goals first
    | (rename_i e he
       rw [Bool.and_eq_true] at hk
       rw [he]
       refine ⟨F, _, _, H, hk.2, ?_⟩
       show (bif Nat.beq n _ then _ else none) = _
       rw [hk.1]
       rfl)
    | cases hk
def xstore (nL n : Nat) (F : xF) (pc i : Nat) (lv : List (Nat × xV)) (st : List xV) (g : xHp) (k : xK) : Bool := match st with
  | (0, e) :: t => (Nat.beq n 0 && Nat.blt i nL) && xst1 lv i (0, e) (fun l => k F (pc, l, t) g)
  | (1, e) :: t => (Nat.beq n 1 && Nat.blt (i + 1) nL) && xst2 lv i (1, e) (fun l => k F (pc, l, t) g)
  | (2, e) :: t => (Nat.beq n 2 && Nat.blt i nL) && xst1 lv i (2, e) (fun l => k F (pc, l, t) g)
  | (4, e) :: t => (Nat.beq n 2 && Nat.blt i nL) && xst1 lv i (4, e) (fun l => k F (pc, l, t) g)
  | _ => false
theorem xstore_s (H : xH r F) {nL n pc i : Nat} {lv : List (Nat × xV)} {st : List xV} {g : xHp} : xsnd T r (xstore nL n F pc i lv st g) (ycstore nL n pc i (xdl r lv) (st.map (xdv r)) (xdH T r g)) := by
  intro k hk
  unfold xstore at hk
  split at hk
  · rename_i e t
    rw [Bool.and_eq_true] at hk
    obtain ⟨l2, h1, h2⟩ := xst1_s (r := r) hk.2
    refine ⟨F, _, _, H, h1, ?_⟩
    show (bif Nat.beq n 0 && Nat.blt i nL then ycgo pc (ycst1 (xdl r lv) i (xdv r (0, e))) (t.map (xdv r)) _ else none) = some ((pc, xdl r l2, _), _)
    rw [hk.1, h2]; rfl
  · rename_i e t
    rw [Bool.and_eq_true] at hk
    obtain ⟨l2, h1, h2⟩ := xst2_s (r := r) hk.2
    refine ⟨F, _, _, H, h1, ?_⟩
    show (bif Nat.beq n 1 && Nat.blt (i + 1) nL then ycgo pc (ycst2 (xdl r lv) i (xdv r (1, e))) (t.map (xdv r)) _ else none) = some ((pc, xdl r l2, _), _)
    rw [hk.1, h2]; rfl
  · rename_i e t
    rw [Bool.and_eq_true] at hk
    obtain ⟨l2, h1, h2⟩ := xst1_s (r := r) hk.2
    refine ⟨F, _, _, H, h1, ?_⟩
    show (bif Nat.beq n 2 && Nat.blt i nL then ycgo pc (ycst1 (xdl r lv) i (xdv r (2, e))) (t.map (xdv r)) _ else none) = some ((pc, xdl r l2, _), _)
    rw [hk.1, h2]; rfl
  · rename_i e t
    rw [Bool.and_eq_true] at hk
    obtain ⟨l2, h1, h2⟩ := xst1_s (r := r) hk.2
    refine ⟨F, _, _, H, h1, ?_⟩
    show (bif Nat.beq n 2 && Nat.blt i nL then ycgo pc (ycst1 (xdl r lv) i (xdv r (4, e))) (t.map (xdv r)) _ else none) = some ((pc, xdl r l2, _), _)
    rw [hk.1, h2]; rfl
  · cases hk
def xinc (nL : Nat) (F : xF) (pc i : Nat) (c : Int) (lv : List (Nat × xV)) (st : List xV) (g : xHp) (k : xK) : Bool := match xlget lv i with
  | some (0, e) => Nat.blt i nL && xfe (xadd F e (.num c)) (fun e => xst1 lv i (0, e) (fun l => k F (pc + 3, l, st) g))
  | _ => false
theorem xinc_s (H : xH r F) {nL pc i : Nat} {c : Int} {lv : List (Nat × xV)} {st : List xV} {g : xHp} : xsnd T r (xinc nL F pc i c lv st g) (ycinc nL pc i c (xdl r lv) (st.map (xdv r)) (xdH T r g)) := by
  intro k hk
  unfold xinc at hk
  unfold ycinc
  rw [xlget_s]
  split at hk
  · rename_i e he
    rw [Bool.and_eq_true, xfe_s] at hk
    obtain ⟨l2, h1, h2⟩ := xst1_s (r := r) hk.2
    rw [he]
    refine ⟨F, _, _, H, h1, ?_⟩
    show (bif Nat.blt i nL then ycgo (pc + 3) (ycst1 (xdl r lv) i (0, y32 (xden r e + c))) _ _ else none) = some ((pc + 3, xdl r l2, _), _)
    have e2 : xdv r (0, xadd F e (.num c)) = (0, y32 (xden r e + c)) := by
      show (0, xden r (xadd F e (.num c))) = _
      rw [xadd_s H]; rfl
    rw [hk.1, h2, e2]; rfl
  · cases hk
/-- not null -/
def xnz (F : xF) (b : xjE) : Bool := xle 1 (xiv F b).1 || xle (xiv F b).2 (-1)
theorem xnz_s (H : xH r F) {b : xjE} (h : xnz F b = true) : xden r b ≠ 0 := by
  unfold xnz at h
  rw [Bool.or_eq_true, xle_iff, xle_iff] at h
  have := xiv_s H b
  omega
def xdiv (n : Nat) (F : xF) (pc : Nat) (lv : List (Nat × xV)) (st : List xV) (g : xHp) (k : xK) : Bool := match st with
  | (0, b) :: (0, a) :: t => xin32 F b && (xnz F b && xfe (xdm F (16 + n) a b) (fun e => k F (pc + 1, lv, (0, e) :: t) g))
  | _ => false
theorem xdiv_s (H : xH r F) {n : Nat} (hn : n < 16) {pc : Nat} {lv : List (Nat × xV)} {st : List xV} {g : xHp} : xsnd T r (xdiv n F pc lv st g) (ycdiv n pc (xdl r lv) (st.map (xdv r)) (xdH T r g)) := by
  intro k hk
  unfold xdiv at hk
  split at hk
  · rename_i b a t
    rw [Bool.and_eq_true, Bool.and_eq_true, xfe_s] at hk
    refine ⟨F, _, _, H, hk.2.2, ?_⟩
    have h0 := xnz_s H hk.2.1
    show (bif decide (y32 (xden r b) = 0) then none else ycgo (pc + 1) (xdl r lv) ((0, ycI n (xden r a) (xden r b)) :: t.map (xdv r)) _) = some ((pc + 1, xdl r lv, (0, xden r (xdm F (16 + n) a b)) :: t.map (xdv r)), _)
    rw [xin32_s H hk.1, decide_eq_false h0, xdm_s H]
    have e : xop (16 + n) (xden r a) (xden r b) = ycI n (xden r a) (xden r b) := by
      unfold xop
      rw [show (16 + n) / 16 = 1 by omega, show (16 + n) % 16 = n by omega]
      rfl
    rw [e]; rfl
  · cases hk
def xin64 (F : xF) (a : xjE) : Bool := xle (-9223372036854775808) (xiv F a).1 && xle (xiv F a).2 9223372036854775807
theorem xin64_s (H : xH r F) {a : xjE} (h : xin64 F a = true) : y64 (xden r a) = xden r a := by
  unfold xin64 at h
  rw [Bool.and_eq_true, xle_iff, xle_iff] at h
  have := xiv_s H a
  exact y64_id (by omega) (by omega)
def xldiv (n : Nat) (F : xF) (pc : Nat) (lv : List (Nat × xV)) (st : List xV) (g : xHp) (k : xK) : Bool := match st with
  | (1, b) :: (1, a) :: t => xin64 F b && (xnz F b && xfe (xdm F (32 + n) a b) (fun e => k F (pc + 1, lv, (1, e) :: t) g))
  | _ => false
theorem xldiv_s (H : xH r F) {n : Nat} (hn : n < 16) {pc : Nat} {lv : List (Nat × xV)} {st : List xV} {g : xHp} : xsnd T r (xldiv n F pc lv st g) (ycldiv n pc (xdl r lv) (st.map (xdv r)) (xdH T r g)) := by
  intro k hk
  unfold xldiv at hk
  split at hk
  · rename_i b a t
    rw [Bool.and_eq_true, Bool.and_eq_true, xfe_s] at hk
    refine ⟨F, _, _, H, hk.2.2, ?_⟩
    have h0 := xnz_s H hk.2.1
    show (bif decide (y64 (xden r b) = 0) then none else ycgo (pc + 1) (xdl r lv) ((1, ycJ n (xden r a) (xden r b)) :: t.map (xdv r)) _) = some ((pc + 1, xdl r lv, (1, xden r (xdm F (32 + n) a b)) :: t.map (xdv r)), _)
    rw [xin64_s H hk.1, decide_eq_false h0, xdm_s H]
    have e : xop (32 + n) (xden r a) (xden r b) = ycJ n (xden r a) (xden r b) := by
      unfold xop
      rw [show (32 + n) / 16 = 2 by omega, show (32 + n) % 16 = n by omega]
      rfl
    rw [e]; rfl
  · cases hk
/-- an operation of one -/
def xI1 (t1 t2 : Nat) (f : xF → xjE → xjE) (F : xF) (pc : Nat) (lv : List (Nat × xV)) (st : List xV) (g : xHp) (k : xK) : Bool := match st with
  | (t0, a) :: t => Nat.beq t0 t1 && xfe (f F a) (fun e => k F (pc + 1, lv, (t2, e) :: t) g)
  | _ => false
theorem xneg_s (H : xH r F) {pc : Nat} {lv : List (Nat × xV)} {st : List xV} {g : xHp} : xsnd T r (xI1 0 0 (fun _ a => xun 0 a) F pc lv st g) (ycneg pc (xdl r lv) (st.map (xdv r)) (xdH T r g)) := by
  intro k hk
  unfold xI1 at hk
  split at hk
  · rename_i t0 a t
    rw [Bool.and_eq_true, xfe_s] at hk
    have e := Nat.eq_of_beq_eq_true hk.1
    subst e
    refine ⟨F, _, _, H, hk.2, ?_⟩
    show some ((pc + 1, xdl r lv, (0, y32 (- xden r a)) :: t.map (xdv r)), _) = some ((pc + 1, xdl r lv, (0, xden r (xun 0 a)) :: t.map (xdv r)), _)
    rw [xun_s, ← xw_s]; rfl
  · cases hk
theorem xi2l_s (H : xH r F) {pc : Nat} {lv : List (Nat × xV)} {st : List xV} {g : xHp} : xsnd T r (xI1 0 1 xto32 F pc lv st g) (yci2l pc (xdl r lv) (st.map (xdv r)) (xdH T r g)) := by
  intro k hk
  unfold xI1 at hk
  split at hk
  · rename_i t0 a t
    rw [Bool.and_eq_true, xfe_s] at hk
    have e := Nat.eq_of_beq_eq_true hk.1
    subst e
    refine ⟨F, _, _, H, hk.2, ?_⟩
    show some ((pc + 1, xdl r lv, (1, y32 (xden r a)) :: t.map (xdv r)), _) = some ((pc + 1, xdl r lv, (1, xden r (xto32 F a)) :: t.map (xdv r)), _)
    rw [xto32_s H]
  · cases hk
theorem xl2i_s (H : xH r F) {pc : Nat} {lv : List (Nat × xV)} {st : List xV} {g : xHp} : xsnd T r (xI1 1 0 xto32 F pc lv st g) (ycl2i pc (xdl r lv) (st.map (xdv r)) (xdH T r g)) := by
  intro k hk
  unfold xI1 at hk
  split at hk
  · rename_i t0 a t
    rw [Bool.and_eq_true, xfe_s] at hk
    have e := Nat.eq_of_beq_eq_true hk.1
    subst e
    refine ⟨F, _, _, H, hk.2, ?_⟩
    show some ((pc + 1, xdl r lv, (0, y32 (xden r a)) :: t.map (xdv r)), _) = some ((pc + 1, xdl r lv, (0, xden r (xto32 F a)) :: t.map (xdv r)), _)
    rw [xto32_s H]
  · cases hk
def xlcmp (F : xF) (pc : Nat) (lv : List (Nat × xV)) (st : List xV) (g : xHp) (k : xK) : Bool := match st with
  | (1, b) :: (1, a) :: t => xfe (xbin 64 a b) (fun e => k F (pc + 1, lv, (0, e) :: t) g)
  | _ => false
theorem xlcmp_s (H : xH r F) {pc : Nat} {lv : List (Nat × xV)} {st : List xV} {g : xHp} : xsnd T r (xlcmp F pc lv st g) (yclcmp pc (xdl r lv) (st.map (xdv r)) (xdH T r g)) := by
  intro k hk
  unfold xlcmp at hk
  split at hk
  · rename_i b a t
    rw [xfe_s] at hk
    refine ⟨F, _, _, H, hk, ?_⟩
    show some ((pc + 1, xdl r lv, (0, bif decide (y64 (xden r b) < y64 (xden r a)) then 1 else bif decide (y64 (xden r a) = y64 (xden r b)) then 0 else -1) :: t.map (xdv r)), _) = some ((pc + 1, xdl r lv, (0, xden r (xbin 64 a b)) :: t.map (xdv r)), _)
    rw [xbin_s]; rfl
  · cases hk
def xdup (F : xF) (pc : Nat) (lv : List (Nat × xV)) (st : List xV) (g : xHp) (k : xK) : Bool := match st with
  | v :: t => !(Nat.beq v.1 1) && k F (pc + 1, lv, v :: v :: t) g
  | _ => false
theorem xbnot {b : Bool} (h : (!b) = true) : b = false := by cases b; rfl; cases h
theorem xdup_s (H : xH r F) {pc : Nat} {lv : List (Nat × xV)} {st : List xV} {g : xHp} : xsnd T r (xdup F pc lv st g) (ycdup pc (xdl r lv) (st.map (xdv r)) (xdH T r g)) := by
  intro k hk
  unfold xdup at hk
  split at hk
  · rename_i v t
    rw [Bool.and_eq_true] at hk
    refine ⟨F, _, _, H, hk.2, ?_⟩
    show (bif Nat.beq v.1 1 then none else _) = _
    rw [xbnot hk.1]; rfl
  · cases hk
def xdup2 (F : xF) (pc : Nat) (lv : List (Nat × xV)) (st : List xV) (g : xHp) (k : xK) : Bool := match st with
  | v :: w :: t => !(Nat.beq v.1 1 || Nat.beq w.1 1) && k F (pc + 1, lv, v :: w :: v :: w :: t) g
  | _ => false
theorem xdup2_s (H : xH r F) {pc : Nat} {lv : List (Nat × xV)} {st : List xV} {g : xHp} : xsnd T r (xdup2 F pc lv st g) (ycdup2 pc (xdl r lv) (st.map (xdv r)) (xdH T r g)) := by
  intro k hk
  unfold xdup2 at hk
  split at hk
  · rename_i v w t
    rw [Bool.and_eq_true] at hk
    refine ⟨F, _, _, H, hk.2, ?_⟩
    show (bif Nat.beq v.1 1 || Nat.beq w.1 1 then none else _) = _
    rw [xbnot hk.1]; rfl
  · cases hk
def xpop (F : xF) (pc : Nat) (lv : List (Nat × xV)) (st : List xV) (g : xHp) (k : xK) : Bool := match st with
  | v :: t => !(Nat.beq v.1 1) && k F (pc + 1, lv, t) g
  | _ => false
theorem xpop_s (H : xH r F) {pc : Nat} {lv : List (Nat × xV)} {st : List xV} {g : xHp} : xsnd T r (xpop F pc lv st g) (ycpop pc (xdl r lv) (st.map (xdv r)) (xdH T r g)) := by
  intro k hk
  unfold xpop at hk
  split at hk
  · rename_i v t
    rw [Bool.and_eq_true] at hk
    refine ⟨F, _, _, H, hk.2, ?_⟩
    show (bif Nat.beq v.1 1 then none else _) = _
    rw [xbnot hk.1]; rfl
  · cases hk
def xjmp (F : xF) (pc : Nat) (off : Int) (lv : List (Nat × xV)) (st : List xV) (g : xHp) (k : xK) : Bool := match yctgt pc off with
  | some n => k F (n, lv, st) g
  | none => false
theorem xjmp_s (H : xH r F) {pc : Nat} {off : Int} {lv : List (Nat × xV)} {st : List xV} {g : xHp} : xsnd T r (xjmp F pc off lv st g) (ycjmp pc off (xdl r lv) (st.map (xdv r)) (xdH T r g)) := by
  intro k hk
  unfold xjmp at hk
  split at hk
  · rename_i n e
    refine ⟨F, _, _, H, hk, ?_⟩
    unfold ycjmp
    rw [e]; rfl
  · cases hk
def xtwo {α : Type} : List α → Bool
  | _ :: _ :: _ => true
  | _ => false
def xfork (l : List (Bool × xF)) (pc : Nat) (off : Int) (lv : List (Nat × xV)) (st : List xV) (g : xHp) (k : xK) : Bool := match yctgt pc off with
  | some n => l.all (fun q => (xtwo l && xctra q.2) || (bif q.1 then k q.2 (n, lv, st) g else k q.2 (pc + 3, lv, st) g))
  | none => false
theorem xfork_s {l : List (Bool × xF)} {b : Bool} (h : ∃ q ∈ l, xH r q.2 ∧ (q.1 = true ↔ b = true)) {pc : Nat} {off : Int} {lv : List (Nat × xV)} {st : List xV} {g : xHp} : xsnd T r (xfork l pc off lv st g) (ycfork pc off b (xdl r lv) (st.map (xdv r)) (xdH T r g)) := by
  intro k hk
  unfold xfork at hk
  split at hk
  · rename_i n e
    obtain ⟨q, hq, hH, hb⟩ := h
    have h1 := List.all_eq_true.mp hk q hq
    rw [xctra_s hH, Bool.and_false, Bool.false_or] at h1
    have e2 : q.1 = b := by
      cases h3 : q.1 <;> cases b <;> simp_all
    unfold ycfork
    rw [e]
    rw [e2] at h1
    cases b with
    | true => exact ⟨q.2, _, _, hH, h1, rfl⟩
    | false => exact ⟨q.2, _, _, hH, h1, rfl⟩
  · cases hk
/-- ends of a comparison with 0; one of two longs is seen through -/
def xtest0 (F : xF) (c : ClassFile.Cond) (a : xjE) : List (Bool × xF) := match a with
  | .pow (.add x y) 64 => bif xin64 F x && xin64 F y then xtest F c x y else xtest F c a (.num 0)
  | a => xtest F c a (.num 0)
theorem xcmp0 (c : ClassFile.Cond) {x y : Int} (h1 : y64 x = x) (h2 : y64 y = y) : yccd c (xop 64 x y) 0 = yccd c x y := by
  have e : xop 64 x y = bif decide (y < x) then 1 else bif decide (x = y) then 0 else -1 := by
    show (bif decide (y64 y < y64 x) then 1 else bif decide (y64 x = y64 y) then 0 else -1) = _
    rw [h1, h2]
  rw [e]
  by_cases h3 : y < x
  · rw [decide_eq_true h3]
    cases c <;> (simp only [yccd, cond_true]; rw [decide_eq_decide]; omega)
  · rw [decide_eq_false h3]
    by_cases h4 : x = y
    · subst h4
      cases c <;> simp [yccd]
    · rw [decide_eq_false h4]
      cases c <;> (simp only [yccd, cond_false]; rw [decide_eq_decide]; omega)
theorem xtest0_s (H : xH r F) (c : ClassFile.Cond) (a : xjE) : ∃ q ∈ xtest0 F c a, xH r q.2 ∧ (q.1 = true ↔ yccd c (xden r a) 0 = true) := by
  unfold xtest0
  split
  · rename_i x y
    cases h : xin64 F x && xin64 F y with
    | true =>
      rw [Bool.and_eq_true] at h
      refine xcg (xtest_s H c x y) ?_
      rw [← xcmp0 c (xin64_s H h.1) (xin64_s H h.2)]; rfl
    | false => exact xtest_s H c _ (.num 0)
  · exact xtest_s H c _ (.num 0)
def xif (c : ClassFile.Cond) (F : xF) (pc : Nat) (off : Int) (lv : List (Nat × xV)) (st : List xV) (g : xHp) (k : xK) : Bool := match st with
  | (0, a) :: t => xin32 F a && xfork (xtest0 F c a) pc off lv t g k
  | _ => false
theorem xif_s (H : xH r F) {c : ClassFile.Cond} {pc : Nat} {off : Int} {lv : List (Nat × xV)} {st : List xV} {g : xHp} : xsnd T r (xif c F pc off lv st g) (ycif c pc off (xdl r lv) (st.map (xdv r)) (xdH T r g)) := by
  intro k hk
  unfold xif at hk
  split at hk
  · rename_i a t
    rw [Bool.and_eq_true] at hk
    have := xfork_s (T := T) (xtest0_s H c a) k hk.2
    rw [← xin32_s H hk.1] at this
    exact this
  · cases hk
def xicm (c : ClassFile.Cond) (F : xF) (pc : Nat) (off : Int) (lv : List (Nat × xV)) (st : List xV) (g : xHp) (k : xK) : Bool := match st with
  | (0, b) :: (0, a) :: t => xin32 F a && (xin32 F b && xfork (xtest F c a b) pc off lv t g k)
  | _ => false
theorem xicm_s (H : xH r F) {c : ClassFile.Cond} {pc : Nat} {off : Int} {lv : List (Nat × xV)} {st : List xV} {g : xHp} : xsnd T r (xicm c F pc off lv st g) (ycicm c pc off (xdl r lv) (st.map (xdv r)) (xdH T r g)) := by
  intro k hk
  unfold xicm at hk
  split at hk
  · rename_i b a t
    rw [Bool.and_eq_true, Bool.and_eq_true] at hk
    have := xfork_s (T := T) (xtest_s H c a b) k hk.2.2
    rw [← xin32_s H hk.1, ← xin32_s H hk.2.1] at this
    exact this
  · cases hk
def xac (c : ClassFile.ACond) (a b : Nat) : Bool := match c with
  | .eq => Nat.beq a b
  | .ne => !(Nat.beq a b)
def xacm (c : ClassFile.ACond) (F : xF) (pc : Nat) (off : Int) (lv : List (Nat × xV)) (st : List xV) (g : xHp) (k : xK) : Bool := match st with
  | (2, .num b) :: (2, .num a) :: t => (Nat.blt a.toNat g.2.1 && Nat.blt b.toNat g.2.1) && xfork [(xac c a.toNat b.toNat, F)] pc off lv t g k
  | _ => false
theorem xacm_s (H : xH r F) {c : ClassFile.ACond} {pc : Nat} {off : Int} {lv : List (Nat × xV)} {st : List xV} {g : xHp} : xsnd T r (xacm c F pc off lv st g) (ycacm c pc off (xdl r lv) (st.map (xdv r)) (xdH T r g)) := by
  intro k hk
  unfold xacm at hk
  split at hk
  · rename_i b a t
    rw [Bool.and_eq_true] at hk
    obtain ⟨F2, fr2, g2, a1, a2, a3⟩ := xfork_s (T := T) (r := r) (b := xac c a.toNat b.toNat) ⟨_, List.mem_singleton.mpr rfl, H, Iff.rfl⟩ k hk.2
    refine ⟨F2, fr2, g2, a1, a2, ?_⟩
    show (bif Nat.blt a.toNat g.2.1 && Nat.blt b.toNat g.2.1 then ycfork pc off (xac c a.toNat b.toNat) (xdl r lv) (t.map (xdv r)) (xdH T r g) else none) = _
    rw [hk.1]
    exact a3
  · cases hk
end YT4
