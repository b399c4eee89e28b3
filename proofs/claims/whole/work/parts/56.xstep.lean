noncomputable section YT6
/-! SYMBOLIC RUNS: a step of any simple instruction -/
variable {T : ycT} {r : Nat → Int} {F : xF}
def xnum (t : Nat) (v : Option Int) (F : xF) (pc : Nat) (lv : List (Nat × xV)) (st : List xV) (g : xHp) (k : xK) : Bool := match v with
  | some v => k F (pc, lv, (t, .num v) :: st) g
  | none => false
def xstep (nL : Nat) (ini : Bool) (Fd : Nat → Option ycFd) (Kc Kl : Nat → Option Int) (St : Nat → Option Nat) (ol : xO) (ins : Instr) (F : xF) (pc : Nat) (lv : List (Nat × xV)) (st : List xV) (g : xHp) (k : xK) : Bool := match ins with
  | .iconst i => k F (pc + 1, lv, (0, .num i) :: st) g
  | .bipush i => k F (pc + 2, lv, (0, .num (Int8.ofInt i).toInt32.toInt) :: st) g
  | .sipush i => k F (pc + 3, lv, (0, .num (Int16.ofInt i).toInt32.toInt) :: st) g
  | .lconst i => k F (pc + 1, lv, (1, .num ((i : Nat) : Int)) :: st) g
  | .ldc i => xnum 0 (Kc i) F (pc + 2) lv st g k
  | .ldc_w i => xnum 0 (Kc i) F (pc + 3) lv st g k
  | .ldc2_w i => xnum 1 (Kl i) F (pc + 3) lv st g k
  | .iload_n i => xload 0 F (pc + 1) i lv st g k
  | .iload i => xload 0 F (pc + 2) i lv st g k
  | .lload_n i => xload 1 F (pc + 1) i lv st g k
  | .lload i => xload 1 F (pc + 2) i lv st g k
  | .aload_n i => xload 2 F (pc + 1) i lv st g k
  | .aload i => xload 2 F (pc + 2) i lv st g k
  | .istore_n i => xstore nL 0 F (pc + 1) i lv st g k
  | .istore i => xstore nL 0 F (pc + 2) i lv st g k
  | .lstore_n i => xstore nL 1 F (pc + 1) i lv st g k
  | .lstore i => xstore nL 1 F (pc + 2) i lv st g k
  | .astore_n i => xstore nL 2 F (pc + 1) i lv st g k
  | .astore i => xstore nL 2 F (pc + 2) i lv st g k
  | .iinc i c => xinc nL F pc i c lv st g k
  | .iadd => xI2 xadd F pc lv st g k
  | .isub => xI2 xsub F pc lv st g k
  | .imul => xI2 xmul F pc lv st g k
  | .iand => xI2 (fun _ => xbin 17) F pc lv st g k
  | .ior => xI2 (fun _ => xbin 18) F pc lv st g k
  | .ixor => xI2 (fun _ => xbin 19) F pc lv st g k
  | .ishl => xI2 (fun _ => xbin 20) F pc lv st g k
  | .ishr => xI2 (fun _ => xbin 21) F pc lv st g k
  | .iushr => xI2 (fun _ => xbin 22) F pc lv st g k
  | .idiv => xdiv 7 F pc lv st g k
  | .irem => xdiv 8 F pc lv st g k
  | .ineg => xI1 0 0 (fun _ a => xun 0 a) F pc lv st g k
  | .ladd => xL2 xladd F pc lv st g k
  | .lsub => xL2 xlsub F pc lv st g k
  | .lmul => xL2 (fun _ => xbin 38) F pc lv st g k
  | .land => xL2 (fun _ => xbin 33) F pc lv st g k
  | .lor => xL2 (fun _ => xbin 34) F pc lv st g k
  | .lxor => xL2 (fun _ => xbin 35) F pc lv st g k
  | .ldiv => xldiv 7 F pc lv st g k
  | .lrem => xldiv 8 F pc lv st g k
  | .lshl => xLI (fun _ => xbin 49) F pc lv st g k
  | .lshr => xLI (fun _ => xbin 50) F pc lv st g k
  | .lushr => xLI (fun _ => xbin 51) F pc lv st g k
  | .i2l => xI1 0 1 xto32 F pc lv st g k
  | .l2i => xI1 1 0 xto32 F pc lv st g k
  | .lcmp => xlcmp F pc lv st g k
  | .dup => xdup F pc lv st g k
  | .dup2 => xdup2 F pc lv st g k
  | .pop => xpop F pc lv st g k
  | .ifCond c off => xif c F pc off lv st g k
  | .if_icmp c off => xicm c F pc off lv st g k
  | .if_acmp c off => xacm c F pc off lv st g k
  | .goto off => xjmp F pc off lv st g k
  | .tableswitch d lo hi offs => xtsw d lo hi offs F pc lv st g k
  | .iaload => xiald ol F pc lv st g k
  | .laload => xald 15 1 F pc lv st g k
  | .baload => xald 16 0 F pc lv st g k
  | .aaload => xaald F pc lv st g k
  | .iastore => xast 14 F pc lv st g k
  | .lastore => xast 15 F pc lv st g k
  | .bastore => xast 16 F pc lv st g k
  | .aastore => xaast F pc lv st g k
  | .arraylength => xalen ol F pc lv st g k
  | .getfield i => (match Fd i with | some x => xgetf x F pc lv st g k | none => false)
  | .putfield i => (match Fd i with | some x => xputf x ini F pc lv st g k | none => false)
  | .getstatic i => (match St i with | some n => k F (pc + 3, lv, (4, .num (n : Int)) :: st) g | none => false)
  | _ => false
/-- the same, the instruction looked at first: what comes of it is kept -/
def xstepc (nL : Nat) (ini : Bool) (Fd : Nat → Option ycFd) (Kc Kl : Nat → Option Int) (St : Nat → Option Nat) (ol : xO) (ins : Instr) : (xF → Nat → List (Nat × xV) → List xV → xHp → xK → Bool) × Unit := match ins with
  | .iconst i => (fun F pc lv st g k => k F (pc + 1, lv, (0, .num i) :: st) g, ())
  | .bipush i => (fun F pc lv st g k => k F (pc + 2, lv, (0, .num (Int8.ofInt i).toInt32.toInt) :: st) g, ())
  | .sipush i => (fun F pc lv st g k => k F (pc + 3, lv, (0, .num (Int16.ofInt i).toInt32.toInt) :: st) g, ())
  | .lconst i => (fun F pc lv st g k => k F (pc + 1, lv, (1, .num ((i : Nat) : Int)) :: st) g, ())
  | .ldc i => (fun F pc lv st g k => xnum 0 (Kc i) F (pc + 2) lv st g k, ())
  | .ldc_w i => (fun F pc lv st g k => xnum 0 (Kc i) F (pc + 3) lv st g k, ())
  | .ldc2_w i => (fun F pc lv st g k => xnum 1 (Kl i) F (pc + 3) lv st g k, ())
  | .iload_n i => (fun F pc lv st g k => xload 0 F (pc + 1) i lv st g k, ())
  | .iload i => (fun F pc lv st g k => xload 0 F (pc + 2) i lv st g k, ())
  | .lload_n i => (fun F pc lv st g k => xload 1 F (pc + 1) i lv st g k, ())
  | .lload i => (fun F pc lv st g k => xload 1 F (pc + 2) i lv st g k, ())
  | .aload_n i => (fun F pc lv st g k => xload 2 F (pc + 1) i lv st g k, ())
  | .aload i => (fun F pc lv st g k => xload 2 F (pc + 2) i lv st g k, ())
  | .istore_n i => (fun F pc lv st g k => xstore nL 0 F (pc + 1) i lv st g k, ())
  | .istore i => (fun F pc lv st g k => xstore nL 0 F (pc + 2) i lv st g k, ())
  | .lstore_n i => (fun F pc lv st g k => xstore nL 1 F (pc + 1) i lv st g k, ())
  | .lstore i => (fun F pc lv st g k => xstore nL 1 F (pc + 2) i lv st g k, ())
  | .astore_n i => (fun F pc lv st g k => xstore nL 2 F (pc + 1) i lv st g k, ())
  | .astore i => (fun F pc lv st g k => xstore nL 2 F (pc + 2) i lv st g k, ())
  | .iinc i c => (fun F pc lv st g k => xinc nL F pc i c lv st g k, ())
  | .iadd => (fun F pc lv st g k => xI2 xadd F pc lv st g k, ())
  | .isub => (fun F pc lv st g k => xI2 xsub F pc lv st g k, ())
  | .imul => (fun F pc lv st g k => xI2 xmul F pc lv st g k, ())
  | .iand => (fun F pc lv st g k => xI2 (fun _ => xbin 17) F pc lv st g k, ())
  | .ior => (fun F pc lv st g k => xI2 (fun _ => xbin 18) F pc lv st g k, ())
  | .ixor => (fun F pc lv st g k => xI2 (fun _ => xbin 19) F pc lv st g k, ())
  | .ishl => (fun F pc lv st g k => xI2 (fun _ => xbin 20) F pc lv st g k, ())
  | .ishr => (fun F pc lv st g k => xI2 (fun _ => xbin 21) F pc lv st g k, ())
  | .iushr => (fun F pc lv st g k => xI2 (fun _ => xbin 22) F pc lv st g k, ())
  | .idiv => (fun F pc lv st g k => xdiv 7 F pc lv st g k, ())
  | .irem => (fun F pc lv st g k => xdiv 8 F pc lv st g k, ())
  | .ineg => (fun F pc lv st g k => xI1 0 0 (fun _ a => xun 0 a) F pc lv st g k, ())
  | .ladd => (fun F pc lv st g k => xL2 xladd F pc lv st g k, ())
  | .lsub => (fun F pc lv st g k => xL2 xlsub F pc lv st g k, ())
  | .lmul => (fun F pc lv st g k => xL2 (fun _ => xbin 38) F pc lv st g k, ())
  | .land => (fun F pc lv st g k => xL2 (fun _ => xbin 33) F pc lv st g k, ())
  | .lor => (fun F pc lv st g k => xL2 (fun _ => xbin 34) F pc lv st g k, ())
  | .lxor => (fun F pc lv st g k => xL2 (fun _ => xbin 35) F pc lv st g k, ())
  | .ldiv => (fun F pc lv st g k => xldiv 7 F pc lv st g k, ())
  | .lrem => (fun F pc lv st g k => xldiv 8 F pc lv st g k, ())
  | .lshl => (fun F pc lv st g k => xLI (fun _ => xbin 49) F pc lv st g k, ())
  | .lshr => (fun F pc lv st g k => xLI (fun _ => xbin 50) F pc lv st g k, ())
  | .lushr => (fun F pc lv st g k => xLI (fun _ => xbin 51) F pc lv st g k, ())
  | .i2l => (fun F pc lv st g k => xI1 0 1 xto32 F pc lv st g k, ())
  | .l2i => (fun F pc lv st g k => xI1 1 0 xto32 F pc lv st g k, ())
  | .lcmp => (fun F pc lv st g k => xlcmp F pc lv st g k, ())
  | .dup => (fun F pc lv st g k => xdup F pc lv st g k, ())
  | .dup2 => (fun F pc lv st g k => xdup2 F pc lv st g k, ())
  | .pop => (fun F pc lv st g k => xpop F pc lv st g k, ())
  | .ifCond c off => (fun F pc lv st g k => xif c F pc off lv st g k, ())
  | .if_icmp c off => (fun F pc lv st g k => xicm c F pc off lv st g k, ())
  | .if_acmp c off => (fun F pc lv st g k => xacm c F pc off lv st g k, ())
  | .goto off => (fun F pc lv st g k => xjmp F pc off lv st g k, ())
  | .tableswitch d lo hi offs => (fun F pc lv st g k => xtsw d lo hi offs F pc lv st g k, ())
  | .iaload => (fun F pc lv st g k => xiald ol F pc lv st g k, ())
  | .laload => (fun F pc lv st g k => xald 15 1 F pc lv st g k, ())
  | .baload => (fun F pc lv st g k => xald 16 0 F pc lv st g k, ())
  | .aaload => (fun F pc lv st g k => xaald F pc lv st g k, ())
  | .iastore => (fun F pc lv st g k => xast 14 F pc lv st g k, ())
  | .lastore => (fun F pc lv st g k => xast 15 F pc lv st g k, ())
  | .bastore => (fun F pc lv st g k => xast 16 F pc lv st g k, ())
  | .aastore => (fun F pc lv st g k => xaast F pc lv st g k, ())
  | .arraylength => (fun F pc lv st g k => xalen ol F pc lv st g k, ())
  | .getfield i => (fun F pc lv st g k => (match Fd i with | some x => xgetf x F pc lv st g k | none => false), ())
  | .putfield i => (fun F pc lv st g k => (match Fd i with | some x => xputf x ini F pc lv st g k | none => false), ())
  | .getstatic i => (fun F pc lv st g k => (match St i with | some n => k F (pc + 3, lv, (4, .num (n : Int)) :: st) g | none => false), ())
  | _ => (fun F pc lv st g k => false, ())
theorem xstepc_e {nL : Nat} {ini : Bool} {Fd : Nat → Option ycFd} {Kc Kl : Nat → Option Int} {St : Nat → Option Nat} {ol : xO} {ins : Instr} {pc : Nat} {lv : List (Nat × xV)} {st : List xV} {g : xHp} {k : xK} : (xstepc nL ini Fd Kc Kl St ol ins).1 F pc lv st g k = xstep nL ini Fd Kc Kl St ol ins F pc lv st g k := by
  cases ins <;> rfl
theorem xnum_s (H : xH r F) {t pc : Nat} {v : Option Int} {lv : List (Nat × xV)} {st : List xV} {g : xHp} : xsnd T r (xnum t v F pc lv st g) (match v with | some v => ycgo pc (xdl r lv) ((t, v) :: st.map (xdv r)) (xdH T r g) | none => none) := by
  intro k hk
  unfold xnum at hk
  split at hk
  · exact ⟨F, _, _, H, hk, rfl⟩
  · cases hk
theorem xop_e (r : Nat → Int) {k : Nat} {f : Int → Int → Int} (h : ∀ a b, xop k a b = f a b) (a b : xjE) : xden r (xbin k a b) = f (xden r a) (xden r b) := by rw [xbin_s, h]
set_option maxHeartbeats 4000000 in
theorem xstep_s (H : xH r F) {nL : Nat} {ini : Bool} {Fd : Nat → Option ycFd} {Kc Kl : Nat → Option Int} {St : Nat → Option Nat} {old : Nat → Nat × (Nat → Int)} {ol : xO} (hol : xolok r old ol) {ins : Instr} {pc : Nat} {lv : List (Nat × xV)} {st : List xV} {g : xHp} :
    xsnd T r (xstep nL ini Fd Kc Kl St ol ins F pc lv st g) (ycstep nL ini Fd Kc Kl St old ins pc (xdl r lv) (st.map (xdv r)) (xdH T r g)) := by
  intro k hk
  unfold xstep at hk
  split at hk
  · exact xgo_s H k hk
  · exact xgo_s H k hk
  · exact xgo_s H k hk
  · exact xgo_s H k hk
  · exact xnum_s H k hk
  · exact xnum_s H k hk
  · exact xnum_s H k hk
  · exact xload_s H k hk
  · exact xload_s H k hk
  · exact xload_s H k hk
  · exact xload_s H k hk
  · exact xload_s H k hk
  · exact xload_s H k hk
  · exact xstore_s H k hk
  · exact xstore_s H k hk
  · exact xstore_s H k hk
  · exact xstore_s H k hk
  · exact xstore_s H k hk
  · exact xstore_s H k hk
  · exact xinc_s H k hk
  · exact xI2_s H (xadd_s H) k hk
  · exact xI2_s H (xsub_s H) k hk
  · exact xI2_s H (xmul_s H) k hk
  · exact xI2_s H (xop_e r (fun _ _ => rfl)) k hk
  · exact xI2_s H (xop_e r (fun _ _ => rfl)) k hk
  · exact xI2_s H (xop_e r (fun _ _ => rfl)) k hk
  · exact xI2_s H (xop_e r (fun _ _ => rfl)) k hk
  · exact xI2_s H (xop_e r (fun _ _ => rfl)) k hk
  · exact xI2_s H (xop_e r (fun _ _ => rfl)) k hk
  · exact xdiv_s H (by decide) k hk
  · exact xdiv_s H (by decide) k hk
  · exact xneg_s H k hk
  · exact xL2_s H (xladd_s H) k hk
  · exact xL2_s H (xlsub_s H) k hk
  · exact xL2_s H (xop_e r (fun _ _ => rfl)) k hk
  · exact xL2_s H (xop_e r (fun _ _ => rfl)) k hk
  · exact xL2_s H (xop_e r (fun _ _ => rfl)) k hk
  · exact xL2_s H (xop_e r (fun _ _ => rfl)) k hk
  · exact xldiv_s H (by decide) k hk
  · exact xldiv_s H (by decide) k hk
  · exact xLI_s H (xop_e r (fun _ _ => rfl)) k hk
  · exact xLI_s H (xop_e r (fun _ _ => rfl)) k hk
  · exact xLI_s H (xop_e r (fun _ _ => rfl)) k hk
  · exact xi2l_s H k hk
  · exact xl2i_s H k hk
  · exact xlcmp_s H k hk
  · exact xdup_s H k hk
  · exact xdup2_s H k hk
  · exact xpop_s H k hk
  · exact xif_s H k hk
  · exact xicm_s H k hk
  · exact xacm_s H k hk
  · exact xjmp_s H k hk
  · exact xtsw_s H k hk
  · exact xiald_s H hol k hk
  · exact xlald_s H k hk
  · exact xbald_s H k hk
  · exact xaald_s H k hk
  · exact xast_s H k hk
  · exact xast_s H k hk
  · exact xast_s H k hk
  · exact xaast_s H k hk
  · exact xalen_s H hol k hk
  · rename_i i
    split at hk
    · rename_i x e
      simp only [ycstep, e]
      exact xgetf_s H k hk
    · cases hk
  · rename_i i
    split at hk
    · rename_i x e
      simp only [ycstep, e]
      exact xputf_s H k hk
    · cases hk
  · rename_i i
    split at hk
    · rename_i n e
      simp only [ycstep, e]
      exact xgo_s H k hk
    · cases hk
  · cases hk
end YT6
