noncomputable section YT6
/-! SYMBOLIC RUNS: a step of any simple instruction -/
variable {T : ycT} {r : Nat → Int} {F : xF}
def xnum (t : Nat) (v : Option Int) (F : xF) (pc : Nat) (lv : List (Nat × xV)) (st : List xV) (g : xHp) (k : xK) : Bool := match v with
  | some v => k F (pc, lv, (t, .num v) :: st) g
  | none => false
def xstep (nL : Nat) (ini : Bool) (Fd : Nat → Option ycFd) (Kc Kl : Nat → Option Int) (St : Nat → Option Nat) (ol : xO) (ins : Instr) (F : xF) (pc : Nat) (lv : List (Nat × xV)) (st : List xV) (g : xHp) (k : xK) : Bool := match ins with
  | .iconst i => k F (pc + 1, lv, (0, .num i) :: st) g
  | .bipush i => k F (pc + 2, lv, (0, .num (Int8.ofInt i).toInt32.toInt) :: st) g
  | .sipush i => k F (pc + 3, lv, (0, .num (Int16.ofInt i).toInt32.toInt) :: st) g
  | .lconst i => k F (pc + 1, lv, (1, .num ((i : Nat) : Int)) :: st) g
  | .ldc i => xnum 0 (Kc i) F (pc + 2) lv st g k
  | .ldc_w i => xnum 0 (Kc i) F (pc + 3) lv st g k
  | .ldc2_w i => xnum 1 (Kl i) F (pc + 3) lv st g k
  | .iload_n i => xload 0 F (pc + 1) i lv st g k
  | .iload i => xload 0 F (pc + 2) i lv st g k
  | .lload_n i => xload 1 F (pc + 1) i lv st g k
  | .lload i => xload 1 F (pc + 2) i lv st g k
  | .aload_n i => xload 2 F (pc + 1) i lv st g k
  | .aload i => xload 2 F (pc + 2) i lv st g k
  | .istore_n i => xstore nL 0 F (pc + 1) i lv st g k
  | .istore i => xstore nL 0 F (pc + 2) i lv st g k
  | .lstore_n i => xstore nL 1 F (pc + 1) i lv st g k
  | .lstore i => xstore nL 1 F (pc + 2) i lv st g k
  | .astore_n i => xstore nL 2 F (pc + 1) i lv st g k
  | .astore i => xstore nL 2 F (pc + 2) i lv st g k
  | .iinc i c => xinc nL F pc i c lv st g k
  | .iadd => xI2 xadd F pc lv st g k
  | .isub => xI2 xsub F pc lv st g k
  | .imul => xI2 xmul F pc lv st g k
  | .iand => xI2 (fun _ => xbin 17) F pc lv st g k
  | .ior => xI2 (fun _ => xbin 18) F pc lv st g k
  | .ixor => xI2 (fun _ => xbin 19) F pc lv st g k
  | .ishl => xI2 (fun _ => xbin 20) F pc lv st g k
  | .ishr => xI2 (fun _ => xbin 21) F pc lv st g k
  | .iushr => xI2 (fun _ => xbin 22) F pc lv st g k
  | .idiv => xdiv 7 F pc lv st g k
  | .irem => xdiv 8 F pc lv st g k
  | .ineg => xI1 0 0 (fun _ a => xun 0 a) F pc lv st g k
  | .ladd => xL2 xladd F pc lv st g k
  | .lsub => xL2 xlsub F pc lv st g k
  | .lmul => xL2 (fun _ => xbin 38) F pc lv st g k
  | .land => xL2 (fun _ => xbin 33) F pc lv st g k
  | .lor => xL2 (fun _ => xbin 34) F pc lv st g k
  | .lxor => xL2 (fun _ => xbin 35) F pc lv st g k
  | .ldiv => xldiv 7 F pc lv st g k
  | .lrem => xldiv 8 F pc lv st g k
  | .lshl => xLI (fun _ => xbin 49) F pc lv st g k
  | .lshr => xLI (fun _ => xbin 50) F pc lv st g k
  | .lushr => xLI (fun _ => xbin 51) F pc lv st g k
  | .i2l => xI1 0 1 xto32 F pc lv st g k
  | .l2i => xI1 1 0 xto32 F pc lv st g k
  | .lcmp => xlcmp F pc lv st g k
  | .dup => xdup F pc lv st g k
  | .dup2 => xdup2 F pc lv st g k
  | .pop => xpop F pc lv st g k
  | .ifCond c off => xif c F pc off lv st g k
  | .if_icmp c off => xicm c F pc off lv st g k
  | .if_acmp c off => xacm c F pc off lv st g k
  | .goto off => xjmp F pc off lv st g k
  | .tableswitch d lo hi offs => xtsw d lo hi offs F pc lv st g k
  | .iaload => xiald ol F pc lv st g k
  | .laload => xald 15 1 F pc lv st g k
  | .baload => xald 16 0 F pc lv st g k
  | .aaload => xaald F pc lv st g k
  | .iastore => xast 14 F pc lv st g k
  | .lastore => xast 15 F pc lv st g k
  | .bastore => xast 16 F pc lv st g k
  | .aastore => xaast F pc lv st g k
  | .arraylength => xalen ol F pc lv st g k
  | .getfield i => (match Fd i with | some x => xgetf x F pc lv st g k | none => false)
  | .putfield i => (match Fd i with | some x => xputf x ini F pc lv st g k | none => false)
  | .getstatic i => (match St i with | some n => k F (pc + 3, lv, (4, .num (n : Int)) :: st) g | none => false)
  | _ => false
theorem xnum_s (H : xH r F) {t pc : Nat} {v : Option Int} {lv : List (Nat × xV)} {st : List xV} {g : xHp} : xsnd T r (xnum t v F pc lv st g) (match v with | some v => ycgo pc (xdl r lv) ((t, v) :: st.map (xdv r)) (xdH T r g) | none => none) := by
  intro k hk
  unfold xnum at hk
  split at hk
  · exact ⟨F, _, _, H, hk, rfl⟩
  · cases hk
theorem xop_e (r : Nat → Int) {k : Nat} {f : Int → Int → Int} (h : ∀ a b, xop k a b = f a b) (a b : xjE) : xden r (xbin k a b) = f (xden r a) (xden r b) := by rw [xbin_s, h]
set_option maxHeartbeats 4000000 in
theorem xstep_s (H : xH r F) {nL : Nat} {ini : Bool} {Fd : Nat → Option ycFd} {Kc Kl : Nat → Option Int} {St : Nat → Option Nat} {old : Nat → Nat × (Nat → Int)} {ol : xO} (hol : xolok r old ol) {ins : Instr} {pc : Nat} {lv : List (Nat × xV)} {st : List xV} {g : xHp} :
    xsnd T r (xstep nL ini Fd Kc Kl St ol ins F pc lv st g) (ycstep nL ini Fd Kc Kl St old ins pc (xdl r lv) (st.map (xdv r)) (xdH T r g)) := by
  intro k hk
  unfold xstep at hk
  split at hk
  · exact xgo_s H k hk
  · exact xgo_s H k hk
  · exact xgo_s H k hk
  · exact xgo_s H k hk
  · exact xnum_s H k hk
  · exact xnum_s H k hk
  · exact xnum_s H k hk
  · exact xload_s H k hk
  · exact xload_s H k hk
  · exact xload_s H k hk
  · exact xload_s H k hk
  · exact xload_s H k hk
  · exact xload_s H k hk
  · exact xstore_s H k hk
  · exact xstore_s H k hk
  · exact xstore_s H k hk
  · exact xstore_s H k hk
  · exact xstore_s H k hk
  · exact xstore_s H k hk
  · exact xinc_s H k hk
  · exact xI2_s H (xadd_s H) k hk
  · exact xI2_s H (xsub_s H) k hk
  · exact xI2_s H (xmul_s H) k hk
  · exact xI2_s H (xop_e r (fun _ _ => rfl)) k hk
  · exact xI2_s H (xop_e r (fun _ _ => rfl)) k hk
  · exact xI2_s H (xop_e r (fun _ _ => rfl)) k hk
  · exact xI2_s H (xop_e r (fun _ _ => rfl)) k hk
  · exact xI2_s H (xop_e r (fun _ _ => rfl)) k hk
  · exact xI2_s H (xop_e r (fun _ _ => rfl)) k hk
  · exact xdiv_s H (by decide) k hk
  · exact xdiv_s H (by decide) k hk
  · exact xneg_s H k hk
  · exact xL2_s H (xladd_s H) k hk
  · exact xL2_s H (xlsub_s H) k hk
  · exact xL2_s H (xop_e r (fun _ _ => rfl)) k hk
  · exact xL2_s H (xop_e r (fun _ _ => rfl)) k hk
  · exact xL2_s H (xop_e r (fun _ _ => rfl)) k hk
  · exact xL2_s H (xop_e r (fun _ _ => rfl)) k hk
  · exact xldiv_s H (by decide) k hk
  · exact xldiv_s H (by decide) k hk
  · exact xLI_s H (xop_e r (fun _ _ => rfl)) k hk
  · exact xLI_s H (xop_e r (fun _ _ => rfl)) k hk
  · exact xLI_s H (xop_e r (fun _ _ => rfl)) k hk
  · exact xi2l_s H k hk
  · exact xl2i_s H k hk
  · exact xlcmp_s H k hk
  · exact xdup_s H k hk
  · exact xdup2_s H k hk
  · exact xpop_s H k hk
  · exact xif_s H k hk
  · exact xicm_s H k hk
  · exact xacm_s H k hk
  · exact xjmp_s H k hk
  · exact xtsw_s H k hk
  · exact xiald_s H hol k hk
  · exact xlald_s H k hk
  · exact xbald_s H k hk
  · exact xaald_s H k hk
  · exact xast_s H k hk
  · exact xast_s H k hk
  · exact xast_s H k hk
  · exact xaast_s H k hk
  · exact xalen_s H hol k hk
  · rename_i i
    split at hk
    · rename_i x e
      simp only [ycstep, e]
      exact xgetf_s H k hk
    · cases hk
  · rename_i i
    split at hk
    · rename_i x e
      simp only [ycstep, e]
      exact xputf_s H k hk
    · cases hk
  · rename_i i
    split at hk
    · rename_i n e
      simp only [ycstep, e]
      exact xgo_s H k hk
    · cases hk
  · cases hk
end YT6
