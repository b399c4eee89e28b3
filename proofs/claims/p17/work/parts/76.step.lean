noncomputable section EZ6
/-! SYMBOLIC RUNS: a step of any simple instruction -/
variable {Q : ezR → Prop} {T : ycT} {r : ezR} {F : xF}
def eznum (t : Nat) (v : Option Int) (F : xF) (pc : Nat) (lv : List (Nat × xV)) (st : List xV) (g : ezHp) (k : ezK_) : Bool := match v with
  | some v => k F (pc, lv, (t, .num v) :: st) g
  | none => false
def ezstep (nL : Nat) (ini : Bool) (Fd : Nat → Option ycFd) (Kc Kl : Nat → Option Int) (St : Nat → Option Nat) (ins : Instr) (F : xF) (pc : Nat) (lv : List (Nat × xV)) (st : List xV) (g : ezHp) (k : ezK_) : Bool := match ins with
  | .iconst i => k F (pc + 1, lv, (0, .num i) :: st) g
  | .bipush i => k F (pc + 2, lv, (0, .num (Int8.ofInt i).toInt32.toInt) :: st) g
  | .sipush i => k F (pc + 3, lv, (0, .num (Int16.ofInt i).toInt32.toInt) :: st) g
  | .lconst i => k F (pc + 1, lv, (1, .num ((i : Nat) : Int)) :: st) g
  | .ldc i => eznum 0 (Kc i) F (pc + 2) lv st g k
  | .ldc_w i => eznum 0 (Kc i) F (pc + 3) lv st g k
  | .ldc2_w i => eznum 1 (Kl i) F (pc + 3) lv st g k
  | .iload_n i => ezload 0 F (pc + 1) i lv st g k
  | .iload i => ezload 0 F (pc + 2) i lv st g k
  | .lload_n i => ezload 1 F (pc + 1) i lv st g k
  | .lload i => ezload 1 F (pc + 2) i lv st g k
  | .aload_n i => ezload 2 F (pc + 1) i lv st g k
  | .aload i => ezload 2 F (pc + 2) i lv st g k
  | .istore_n i => ezstore nL 0 F (pc + 1) i lv st g k
  | .istore i => ezstore nL 0 F (pc + 2) i lv st g k
  | .lstore_n i => ezstore nL 1 F (pc + 1) i lv st g k
  | .lstore i => ezstore nL 1 F (pc + 2) i lv st g k
  | .astore_n i => ezstore nL 2 F (pc + 1) i lv st g k
  | .astore i => ezstore nL 2 F (pc + 2) i lv st g k
  | .iinc i c => ezinc nL F pc i c lv st g k
  | .iadd => ezI2 ezadd F pc lv st g k
  | .isub => ezI2 ezsub F pc lv st g k
  | .imul => ezI2 ezmul F pc lv st g k
  | .iand => ezI2 (fun _ => xbin 17) F pc lv st g k
  | .ior => ezI2 ezior F pc lv st g k
  | .ixor => ezI2 (fun _ => xbin 19) F pc lv st g k
  | .ishl => ezI2 ezshl F pc lv st g k
  | .ishr => ezI2 (fun _ => xbin 21) F pc lv st g k
  | .iushr => ezI2 (fun _ => xbin 22) F pc lv st g k
  | .idiv => ezdiv 7 F pc lv st g k
  | .irem => ezdiv 8 F pc lv st g k
  | .ineg => ezI1 0 0 (fun _ a => xun 0 a) F pc lv st g k
  | .ladd => ezL2 ezladd F pc lv st g k
  | .lsub => ezL2 ezlsub F pc lv st g k
  | .lmul => ezL2 (fun _ => xbin 38) F pc lv st g k
  | .land => ezL2 (fun _ => xbin 33) F pc lv st g k
  | .lor => ezL2 (fun _ => xbin 34) F pc lv st g k
  | .lxor => ezL2 (fun _ => xbin 35) F pc lv st g k
  | .ldiv => ezldiv 7 F pc lv st g k
  | .lrem => ezldiv 8 F pc lv st g k
  | .lshl => ezLI (fun _ => xbin 49) F pc lv st g k
  | .lshr => ezLI (fun _ => xbin 50) F pc lv st g k
  | .lushr => ezLI (fun _ => xbin 51) F pc lv st g k
  | .i2l => ezI1 0 1 ezto32 F pc lv st g k
  | .l2i => ezI1 1 0 ezto32 F pc lv st g k
  | .lcmp => ezlcmp F pc lv st g k
  | .dup => ezdup F pc lv st g k
  | .dup2 => ezdup2 F pc lv st g k
  | .pop => ezpop F pc lv st g k
  | .ifCond c off => ezif c F pc off lv st g k
  | .if_icmp c off => ezicm c F pc off lv st g k
  | .if_acmp c off => ezacm c F pc off lv st g k
  | .goto off => ezjmp F pc off lv st g k
  | .tableswitch d lo hi offs => eztsw d lo hi offs F pc lv st g k
  | .lookupswitch d ps => ezlsw d ps F pc lv st g k
  | .iaload => eziald F pc lv st g k
  | .laload => ezald 15 1 F pc lv st g k
  | .baload => ezald 16 0 F pc lv st g k
  | .aaload => ezaald F pc lv st g k
  | .iastore => ezast 14 F pc lv st g k
  | .lastore => ezast 15 F pc lv st g k
  | .bastore => ezast 16 F pc lv st g k
  | .aastore => ezaast F pc lv st g k
  | .arraylength => ezalen F pc lv st g k
  | .getfield i => (match Fd i with | some x => ezgetf x F pc lv st g k | none => false)
  | .putfield i => (match Fd i with | some x => ezputf x ini F pc lv st g k | none => false)
  | .getstatic i => (match St i with | some n => k F (pc + 3, lv, (4, .num (n : Int)) :: st) g | none => false)
  | _ => false
theorem eznum_s (H : ezH Q r F) {t pc : Nat} {v : Option Int} {lv : List (Nat × xV)} {st : List xV} {g : ezHp} : ezsnd T Q r (eznum t v F pc lv st g) (match v with | some v => ycgo pc (ezdl r lv) ((t, v) :: st.map (ezdv r)) (ezhp T r g) | none => none) := by
  intro k hk
  unfold eznum at hk
  split at hk
  · exact ⟨F, _, _, H, hk, rfl⟩
  · cases hk
theorem ezop_e (r : ezR) {k : Nat} {f : Int → Int → Int} (h : ∀ a b, xop k a b = f a b) (a b : xjE) : ezden r (xbin k a b) = f (ezden r a) (ezden r b) := by rw [ezbin_s, h]
set_option maxHeartbeats 4000000 in
theorem ezstep_s (H : ezH Q r F) {nL : Nat} {ini : Bool} {Fd : Nat → Option ycFd} {Kc Kl : Nat → Option Int} {St : Nat → Option Nat} (hol : ezol T r) {ins : Instr} {pc : Nat} {lv : List (Nat × xV)} {st : List xV} {g : ezHp} :
    ezsnd T Q r (ezstep nL ini Fd Kc Kl St ins F pc lv st g) (ycstep nL ini Fd Kc Kl St (ytOL T) ins pc (ezdl r lv) (st.map (ezdv r)) (ezhp T r g)) := by
  intro k hk
  unfold ezstep at hk
  split at hk
  · exact ezgo_s H k hk
  · exact ezgo_s H k hk
  · exact ezgo_s H k hk
  · exact ezgo_s H k hk
  · exact eznum_s H k hk
  · exact eznum_s H k hk
  · exact eznum_s H k hk
  · exact ezload_s H k hk
  · exact ezload_s H k hk
  · exact ezload_s H k hk
  · exact ezload_s H k hk
  · exact ezload_s H k hk
  · exact ezload_s H k hk
  · exact ezstore_s H k hk
  · exact ezstore_s H k hk
  · exact ezstore_s H k hk
  · exact ezstore_s H k hk
  · exact ezstore_s H k hk
  · exact ezstore_s H k hk
  · exact ezinc_s H k hk
  · exact ezI2_s H (ezadd_s H) k hk
  · exact ezI2_s H (ezsub_s H) k hk
  · exact ezI2_s H (ezmul_s H) k hk
  · exact ezI2_s H (ezop_e r (fun _ _ => rfl)) k hk
  · exact ezI2_s H (fun a b => (ezior_s H a b).trans rfl) k hk
  · exact ezI2_s H (ezop_e r (fun _ _ => rfl)) k hk
  · exact ezI2_s H (fun a b => (ezshl_s H a b).trans rfl) k hk
  · exact ezI2_s H (ezop_e r (fun _ _ => rfl)) k hk
  · exact ezI2_s H (ezop_e r (fun _ _ => rfl)) k hk
  · exact ezdiv_s H (by decide) k hk
  · exact ezdiv_s H (by decide) k hk
  · exact ezneg_s H k hk
  · exact ezL2_s H (ezladd_s H) k hk
  · exact ezL2_s H (ezlsub_s H) k hk
  · exact ezL2_s H (ezop_e r (fun _ _ => rfl)) k hk
  · exact ezL2_s H (ezop_e r (fun _ _ => rfl)) k hk
  · exact ezL2_s H (ezop_e r (fun _ _ => rfl)) k hk
  · exact ezL2_s H (ezop_e r (fun _ _ => rfl)) k hk
  · exact ezldiv_s H (by decide) k hk
  · exact ezldiv_s H (by decide) k hk
  · exact ezLI_s H (ezop_e r (fun _ _ => rfl)) k hk
  · exact ezLI_s H (ezop_e r (fun _ _ => rfl)) k hk
  · exact ezLI_s H (ezop_e r (fun _ _ => rfl)) k hk
  · exact ezi2l_s H k hk
  · exact ezl2i_s H k hk
  · exact ezlcmp_s H k hk
  · exact ezdup_s H k hk
  · exact ezdup2_s H k hk
  · exact ezpop_s H k hk
  · exact ezif_s H k hk
  · exact ezicm_s H k hk
  · exact ezacm_s H k hk
  · exact ezjmp_s H k hk
  · exact eztsw_s H k hk
  · exact ezlsw_s H k hk
  · exact eziald_s H hol k hk
  · exact ezlald_s H k hk
  · exact ezbald_s H k hk
  · exact ezaald_s H k hk
  · exact ezast_s H k hk
  · exact ezast_s H k hk
  · exact ezast_s H k hk
  · exact ezaast_s k hk
  · exact ezalen_s H hol k hk
  · rename_i i
    split at hk
    · rename_i x e
      simp only [ycstep, e]
      exact ezgetf_s H k hk
    · cases hk
  · rename_i i
    split at hk
    · rename_i x e
      simp only [ycstep, e]
      exact ezputf_s H k hk
    · cases hk
  · rename_i i
    split at hk
    · rename_i n e
      simp only [ycstep, e]
      exact ezgo_s H k hk
    · cases hk
  · cases hk
end EZ6
