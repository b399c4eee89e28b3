section XJ9
variable {p : Program} {l : Launch} {e : Env} {R : Room} {s : State} {m : MethodId} {args : Array Value} {below : List Frame} {meth : Method} {c : Code} {Q : State → Prop} {cl : List vw_C} {D : va_G} {A : Nat → Prop} {tc : Nat → ClassId} {ad : Nat → Nat} {r : Nat → Int32 × Int64} {nL cells slots : Nat}
variable {cc : ByteArray} {pc len : Nat} {lv : List (Nat × xjV)} {st : List xjV} {g : xjG} {L : List (xjFr × xjG)}
noncomputable def xjisw : Instr → Bool
  | .tableswitch _ _ _ _ | .lookupswitch _ _ => true
  | _ => false
set_option maxHeartbeats 4000000 in
theorem xjstep_s {own : String} {Ts : List Cond} {ini : Bool} {Fd : Nat → Option xjFd} {Kc Kl : Nat → Option Int} {ins : Instr} (hexec : p.tables.exec = Jvm.exec) (hb : c.code = cc) (hown : s.vm.findClass own = some m.cls) (hts : ∀ w ∈ Ts, w.before args s = true) (hK : va_K D cl (xjtys tc) s) (hini : ini = true → meth.name = "<init>")
    (hFd : ∀ i x, Fd i = some x → xjfok Ts own cl i x) (hKc : ∀ i v, Kc i = some v → Cond.constant own i (Int32.ofInt v) ∈ Ts) (hKl : ∀ i v, Kl i = some v → Cond.constantLong own i (Int64.ofInt v) ∈ Ts)
    (hdg : decode cc pc = .ok (ins, len)) (hlen : (xjisw ins || Nat.beq len (xjlen ins)) = true) (hk : xjnext p l e R s m args below meth c Q cl D A tc ad r nL cells slots L) (hF : xjH r g.1) (h : xjstep nL ini Fd Kc Kl ins pc lv st g = some L) : xjhold p l e R s m args below meth c Q cl D A tc ad r nL cells slots (pc, lv, st) g := by
  cases ins
  case iconst i =>
    have hl9 : len = 1 := Nat.eq_of_beq_eq_true hlen
    subst hl9
    exact xjci_s (len := 1) rfl hk hF (fun H locs cells slots ls rest k => lv_iconst hexec hb hdg rfl k) h
  case bipush i =>
    have hl9 : len = 2 := Nat.eq_of_beq_eq_true hlen
    subst hl9
    exact xjci_s (len := 2) (v := (Int8.ofInt i).toInt32) (Int32.ofInt_toInt _) hk hF (fun H locs cells slots ls rest k => lv_bipush hexec hb hdg rfl k) h
  case sipush i =>
    have hl9 : len = 3 := Nat.eq_of_beq_eq_true hlen
    subst hl9
    exact xjci_s (len := 3) (v := (Int16.ofInt i).toInt32) (Int32.ofInt_toInt _) hk hF (fun H locs cells slots ls rest k => lv_sipush hexec hb hdg rfl k) h
  case lconst i =>
    have hl9 : len = 1 := Nat.eq_of_beq_eq_true hlen
    subst hl9
    exact xjcl_s (len := 1) (v := Int64.ofNat (i : Nat)) (Int64.ofInt_toInt _) hk hF (fun H locs cells slots ls rest k => lv_lconst hexec hb hdg rfl k) h
  case ldc i =>
    have hl9 : len = 2 := Nat.eq_of_beq_eq_true hlen
    subst hl9
    change (match Kc i with | some v => xjgo (pc + 2) lv ((0, .num v) :: st) g | none => none) = some L at h
    split at h
    · rename_i v hv
      exact xjci_s (len := 2) rfl hk hF (fun H locs cells slots ls rest k => lv_ldc hexec hb hown (hts _ (hKc i v hv)) hdg k) h
    · cases h
  case ldc_w i =>
    have hl9 : len = 3 := Nat.eq_of_beq_eq_true hlen
    subst hl9
    change (match Kc i with | some v => xjgo (pc + 3) lv ((0, .num v) :: st) g | none => none) = some L at h
    split at h
    · rename_i v hv
      exact xjci_s (len := 3) rfl hk hF (fun H locs cells slots ls rest k => lv_ldcw hexec hb hown (hts _ (hKc i v hv)) hdg k) h
    · cases h
  case ldc2_w i =>
    have hl9 : len = 3 := Nat.eq_of_beq_eq_true hlen
    subst hl9
    change (match Kl i with | some v => xjgo (pc + 3) lv ((1, .num v) :: st) g | none => none) = some L at h
    split at h
    · rename_i v hv
      exact xjcl_s (len := 3) rfl hk hF (fun H locs cells slots ls rest k => lv_ldc2 hexec hb hown (hts _ (hKl i v hv)) hdg k) h
    · cases h
  case iload_n i =>
    have hl9 : len = 1 := Nat.eq_of_beq_eq_true hlen
    subst hl9
    refine xjload_s (len := 1) hk hF (fun H locs cells slots ls rest v hv hl k => ?_) h
    rcases hv with ⟨_, x, rfl⟩ | ⟨z, _⟩ | ⟨z, _⟩
    · exact lv_iload_n hexec hb hdg rfl hl k
    · cases z
    · cases z
  case iload i =>
    have hl9 : len = 2 := Nat.eq_of_beq_eq_true hlen
    subst hl9
    refine xjload_s (len := 2) hk hF (fun H locs cells slots ls rest v hv hl k => ?_) h
    rcases hv with ⟨_, x, rfl⟩ | ⟨z, _⟩ | ⟨z, _⟩
    · exact lv_iload hexec hb hdg hl k
    · cases z
    · cases z
  case lload_n i =>
    have hl9 : len = 1 := Nat.eq_of_beq_eq_true hlen
    subst hl9
    refine xjload_s (len := 1) hk hF (fun H locs cells slots ls rest v hv hl k => ?_) h
    rcases hv with ⟨z, _⟩ | ⟨_, x, rfl⟩ | ⟨z, _⟩
    · cases z
    · exact lv_lload_n hexec hb hdg rfl hl k
    · cases z
  case lload i =>
    have hl9 : len = 2 := Nat.eq_of_beq_eq_true hlen
    subst hl9
    refine xjload_s (len := 2) hk hF (fun H locs cells slots ls rest v hv hl k => ?_) h
    rcases hv with ⟨z, _⟩ | ⟨_, x, rfl⟩ | ⟨z, _⟩
    · cases z
    · exact lv_lload hexec hb hdg hl k
    · cases z
  case aload_n i =>
    have hl9 : len = 1 := Nat.eq_of_beq_eq_true hlen
    subst hl9
    refine xjload_s (len := 1) hk hF (fun H locs cells slots ls rest v hv hl k => ?_) h
    rcases hv with ⟨z, _⟩ | ⟨z, _⟩ | ⟨_, x, rfl⟩
    · cases z
    · cases z
    · exact lv_aload_n hexec hb hdg rfl hl k
  case aload i =>
    have hl9 : len = 2 := Nat.eq_of_beq_eq_true hlen
    subst hl9
    refine xjload_s (len := 2) hk hF (fun H locs cells slots ls rest v hv hl k => ?_) h
    rcases hv with ⟨z, _⟩ | ⟨z, _⟩ | ⟨_, x, rfl⟩
    · cases z
    · cases z
    · exact lv_aload hexec hb hdg hl k
  case istore_n i =>
    have hl9 : len = 1 := Nat.eq_of_beq_eq_true hlen
    subst hl9
    refine xjstore_s (len := 1) hk hF (fun H locs cells slots ls rest v lw hv hl kk => ?_) (fun H locs cells slots ls rest x v lw hz _ _ _ _ => by cases hz) h
    rcases hv with ⟨_, hn, x, rfl⟩ | ⟨z, _⟩
    · exact lv_istore_n hexec hb hdg rfl hl hn rfl kk
    · cases z
  case istore i =>
    have hl9 : len = 2 := Nat.eq_of_beq_eq_true hlen
    subst hl9
    refine xjstore_s (len := 2) hk hF (fun H locs cells slots ls rest v lw hv hl kk => ?_) (fun H locs cells slots ls rest x v lw hz _ _ _ _ => by cases hz) h
    rcases hv with ⟨_, hn, x, rfl⟩ | ⟨z, _⟩
    · exact lv_istore hexec hb hdg hl hn rfl kk
    · cases z
  case astore_n i =>
    have hl9 : len = 1 := Nat.eq_of_beq_eq_true hlen
    subst hl9
    refine xjstore_s (len := 1) hk hF (fun H locs cells slots ls rest v lw hv hl kk => ?_) (fun H locs cells slots ls rest x v lw hz _ _ _ _ => by cases hz) h
    rcases hv with ⟨z, _⟩ | ⟨_, hn, x, rfl⟩
    · cases z
    · exact lv_astore_n hexec hb hdg rfl hl hn rfl kk
  case astore i =>
    have hl9 : len = 2 := Nat.eq_of_beq_eq_true hlen
    subst hl9
    refine xjstore_s (len := 2) hk hF (fun H locs cells slots ls rest v lw hv hl kk => ?_) (fun H locs cells slots ls rest x v lw hz _ _ _ _ => by cases hz) h
    rcases hv with ⟨z, _⟩ | ⟨_, hn, x, rfl⟩
    · cases z
    · exact lv_astore hexec hb hdg hl hn rfl kk
  case lstore_n i =>
    have hl9 : len = 1 := Nat.eq_of_beq_eq_true hlen
    subst hl9
    refine xjstore_s (len := 1) hk hF (fun H locs cells slots ls rest v lw hv hl kk => by rcases hv with ⟨z, _⟩ | ⟨z, _⟩ <;> cases z) (fun H locs cells slots ls rest x v lw _ hn hv hl kk => ?_) h
    subst hv
    exact lv_lstore_n hexec hb hdg rfl hl hn rfl kk
  case lstore i =>
    have hl9 : len = 2 := Nat.eq_of_beq_eq_true hlen
    subst hl9
    refine xjstore_s (len := 2) hk hF (fun H locs cells slots ls rest v lw hv hl kk => by rcases hv with ⟨z, _⟩ | ⟨z, _⟩ <;> cases z) (fun H locs cells slots ls rest x v lw _ hn hv hl kk => ?_) h
    subst hv
    exact lv_lstore hexec hb hdg hl hn rfl kk
  case iinc i k =>
    have hl9 : len = 3 := Nat.eq_of_beq_eq_true hlen
    subst hl9
    exact xjinc_s hexec hb hdg hk hF h
  case iadd =>
    have hl9 : len = 1 := Nat.eq_of_beq_eq_true hlen
    subst hl9
    exact xjI2_s (xjadd_s r) (fun H locs cells slots ls rest x y k => lv_iadd hexec hb hdg k) hk hF h
  case isub =>
    have hl9 : len = 1 := Nat.eq_of_beq_eq_true hlen
    subst hl9
    exact xjI2_s (xjsub_s r) (fun H locs cells slots ls rest x y k => lv_isub hexec hb hdg k) hk hF h
  case imul =>
    have hl9 : len = 1 := Nat.eq_of_beq_eq_true hlen
    subst hl9
    exact xjI2_s (xjmul_s r) (fun H locs cells slots ls rest x y k => lv_imul hexec hb hdg k) hk hF h
  case iand =>
    have hl9 : len = 1 := Nat.eq_of_beq_eq_true hlen
    subst hl9
    exact xjI2_s (xjbin_s r 1) (fun H locs cells slots ls rest x y k => lv_iand hexec hb hdg k) hk hF h
  case ior =>
    have hl9 : len = 1 := Nat.eq_of_beq_eq_true hlen
    subst hl9
    exact xjI2_s (xjbin_s r 2) (fun H locs cells slots ls rest x y k => lv_ior hexec hb hdg k) hk hF h
  case ixor =>
    have hl9 : len = 1 := Nat.eq_of_beq_eq_true hlen
    subst hl9
    exact xjI2_s (xjbin_s r 3) (fun H locs cells slots ls rest x y k => lv_ixor hexec hb hdg k) hk hF h
  case ishl =>
    have hl9 : len = 1 := Nat.eq_of_beq_eq_true hlen
    subst hl9
    exact xjI2_s (xjbin_s r 4) (fun H locs cells slots ls rest x y k => lv_ishl hexec hb hdg k) hk hF h
  case ishr =>
    have hl9 : len = 1 := Nat.eq_of_beq_eq_true hlen
    subst hl9
    exact xjI2_s (xjbin_s r 5) (fun H locs cells slots ls rest x y k => lv_ishr hexec hb hdg k) hk hF h
  case iushr =>
    have hl9 : len = 1 := Nat.eq_of_beq_eq_true hlen
    subst hl9
    exact xjI2_s (xjbin_s r 6) (fun H locs cells slots ls rest x y k => lv_iushr hexec hb hdg rfl k) hk hF h
  case idiv =>
    have hl9 : len = 1 := Nat.eq_of_beq_eq_true hlen
    subst hl9
    exact xjdiv_s (ins := .idiv) (k := 7) (f2 := fun x y => x / y) rfl (fun H locs ls rest x y hy k => lv_idiv hexec hb hdg hy k) hk hF h
  case irem =>
    have hl9 : len = 1 := Nat.eq_of_beq_eq_true hlen
    subst hl9
    exact xjdiv_s (ins := .irem) (k := 8) (f2 := fun x y => x - x / y * y) rfl (fun H locs ls rest x y hy k => lv_irem hexec hb hdg hy k) hk hF h
  case ineg =>
    have hl9 : len = 1 := Nat.eq_of_beq_eq_true hlen
    subst hl9
    exact xjI1_s (xjneg_s r) (fun H locs cells slots ls rest x k => lv_ineg hexec hb hdg k) hk hF h
  case ladd =>
    have hl9 : len = 1 := Nat.eq_of_beq_eq_true hlen
    subst hl9
    exact xjL2_s (fun H locs cells slots ls rest x y k => lv_ladd hexec hb hdg k) hk hF h
  case lsub =>
    have hl9 : len = 1 := Nat.eq_of_beq_eq_true hlen
    subst hl9
    exact xjL2_s (fun H locs cells slots ls rest x y k => lv_lsub hexec hb hdg k) hk hF h
  case lmul =>
    have hl9 : len = 1 := Nat.eq_of_beq_eq_true hlen
    subst hl9
    exact xjL2_s (fun H locs cells slots ls rest x y k => lv_lmul hexec hb hdg k) hk hF h
  case land =>
    have hl9 : len = 1 := Nat.eq_of_beq_eq_true hlen
    subst hl9
    exact xjL2_s (fun H locs cells slots ls rest x y k => lv_land hexec hb hdg k) hk hF h
  case lor =>
    have hl9 : len = 1 := Nat.eq_of_beq_eq_true hlen
    subst hl9
    exact xjL2_s (fun H locs cells slots ls rest x y k => lv_lor hexec hb hdg k) hk hF h
  case lxor =>
    have hl9 : len = 1 := Nat.eq_of_beq_eq_true hlen
    subst hl9
    exact xjL2_s (fun H locs cells slots ls rest x y k => lv_lxor hexec hb hdg k) hk hF h
  case lshl =>
    have hl9 : len = 1 := Nat.eq_of_beq_eq_true hlen
    subst hl9
    exact xjLI_s (fun H locs cells slots ls rest x y k => lv_lshl hexec hb hdg rfl k) hk hF h
  case lshr =>
    have hl9 : len = 1 := Nat.eq_of_beq_eq_true hlen
    subst hl9
    exact xjLI_s (fun H locs cells slots ls rest x y k => lv_lshr hexec hb hdg rfl k) hk hF h
  case lushr =>
    have hl9 : len = 1 := Nat.eq_of_beq_eq_true hlen
    subst hl9
    exact xjLI_s (fun H locs cells slots ls rest x y k => lv_lushr hexec hb hdg rfl k) hk hF h
  case i2l =>
    have hl9 : len = 1 := Nat.eq_of_beq_eq_true hlen
    subst hl9
    exact xji2l_s hexec hb hdg hk hF h
  case l2i =>
    have hl9 : len = 1 := Nat.eq_of_beq_eq_true hlen
    subst hl9
    exact xjl2i_s hexec hb hdg hk hF h
  case lcmp =>
    have hl9 : len = 1 := Nat.eq_of_beq_eq_true hlen
    subst hl9
    exact xjlcmp_s hexec hb hdg hk hF h
  case dup =>
    have hl9 : len = 1 := Nat.eq_of_beq_eq_true hlen
    subst hl9
    exact xjdup_s hexec hb hdg hk hF h
  case dup2 =>
    have hl9 : len = 1 := Nat.eq_of_beq_eq_true hlen
    subst hl9
    exact xjdup2_s hexec hb hdg hk hF h
  case pop =>
    have hl9 : len = 1 := Nat.eq_of_beq_eq_true hlen
    subst hl9
    exact xjpop_s hexec hb hdg hk hF h
  case ifCond cd off =>
    have hl9 : len = 3 := Nat.eq_of_beq_eq_true hlen
    subst hl9
    change xjif cd pc off lv st g = some L at h
    unfold xjif at h
    split at h
    · rename_i x t
      refine xjfork_s (xjtest_s hF cd x (.num 0)) hk (fun H locs cells slots ls tgt ht kt kf => ?_) h
      cases cd
      · exact lv_if_eq hexec hb hdg ht kt kf
      · exact lv_if_ne hexec hb hdg ht kt (fun z => kf (fun y => y z))
      · exact lv_if_lt hexec hb hdg ht kt kf
      · exact lv_if_ge hexec hb hdg ht kt kf
      · exact lv_if_gt hexec hb hdg ht kt kf
      · exact lv_if_le hexec hb hdg ht kt kf
    · cases h
  case if_icmp cd off =>
    have hl9 : len = 3 := Nat.eq_of_beq_eq_true hlen
    subst hl9
    change xjicm cd pc off lv st g = some L at h
    unfold xjicm at h
    split at h
    · rename_i y x t
      refine xjfork_s (xjtest_s hF cd x y) hk (fun H locs cells slots ls tgt ht kt kf => ?_) h
      cases cd
      · exact lv_icmp_eq hexec hb hdg ht kt kf
      · exact lv_icmp_ne hexec hb hdg ht kt (fun z => kf (fun y => y z))
      · exact lv_icmp_lt hexec hb hdg ht kt kf
      · exact lv_icmp_ge hexec hb hdg ht kt kf
      · exact lv_icmp_gt hexec hb hdg ht kt kf
      · exact lv_icmp_le hexec hb hdg ht kt kf
    · cases h
  case if_acmp cd off =>
    have hl9 : len = 3 := Nat.eq_of_beq_eq_true hlen
    subst hl9
    exact xjacmp_s hexec hb hdg hk hF h
  case goto off =>
    have hl9 : len = 3 := Nat.eq_of_beq_eq_true hlen
    subst hl9
    change (match xjtgt pc off with | some n => xjgo n lv st g | none => none) = some L at h
    split at h
    · rename_i n hn9
      have hgo := xjgo_s hk hF h
      intro H locs ls hP hD hS hm hn hl
      exact lv_goto hexec hb hdg (xjtgt_s hn9) (hgo H locs ls hP hD hS hm hn hl)
    · cases h
  case tableswitch d lo hi offs =>
    exact xjtsw_s hexec hb hdg hk hF h
  case lookupswitch d ps =>
    exact xjlsw_s hexec hb hdg hk hF h
  case iaload =>
    have hl9 : len = 1 := Nat.eq_of_beq_eq_true hlen
    subst hl9
    exact xjiald_s hexec hb hK hdg hk hF h
  case baload =>
    have hl9 : len = 1 := Nat.eq_of_beq_eq_true hlen
    subst hl9
    exact xjzald_s hexec hb hK hdg hk hF h
  case laload =>
    have hl9 : len = 1 := Nat.eq_of_beq_eq_true hlen
    subst hl9
    exact xjlald_s hexec hb hK hdg hk hF h
  case aaload =>
    have hl9 : len = 1 := Nat.eq_of_beq_eq_true hlen
    subst hl9
    exact xjaald_s hexec hb hK hdg hk hF h
  case iastore =>
    have hl9 : len = 1 := Nat.eq_of_beq_eq_true hlen
    subst hl9
    exact xjiast_s hexec hb hK hdg hk hF h
  case bastore =>
    have hl9 : len = 1 := Nat.eq_of_beq_eq_true hlen
    subst hl9
    exact xjzast_s hexec hb hK hdg hk hF h
  case lastore =>
    have hl9 : len = 1 := Nat.eq_of_beq_eq_true hlen
    subst hl9
    exact xjlast_s hexec hb hK hdg hk hF h
  case arraylength =>
    have hl9 : len = 1 := Nat.eq_of_beq_eq_true hlen
    subst hl9
    exact xjalen_s hexec hb hK hdg hk hF h
  case getfield i =>
    have hl9 : len = 3 := Nat.eq_of_beq_eq_true hlen
    subst hl9
    change (match Fd i with | some x => xjgetf x pc lv st g | none => none) = some L at h
    split at h
    · rename_i x hx
      exact xjgetf_s hexec hb hown hts hK (hFd i x hx) hdg hk hF h
    · cases h
  case putfield i =>
    have hl9 : len = 3 := Nat.eq_of_beq_eq_true hlen
    subst hl9
    change (match Fd i with | some x => xjputf x ini pc lv st g | none => none) = some L at h
    split at h
    · rename_i x hx
      exact xjputf_s hexec hb hown hts hK hini (hFd i x hx) hdg hk hF h
    · cases h
  all_goals exact absurd (show (none : xjR) = some L from h) (by simp)
end XJ9
