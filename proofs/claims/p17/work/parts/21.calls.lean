section YC12
variable {l : Launch} {cl : List vw_C} {D : va_G} {tc : Nat → ClassId} {ad oa : Nat → Nat}
variable {Ns : List (String × String)} {sn : Nat → String × String} {T : ycT} {Ts : List Cond} {yN : Nat → MethodName} {yB : Nat → ByteArray} {yR : Nat → Option FieldType} {M : Nat → Prop}
/-- every run of k steps is the machine's -/
def ycHold (l : Launch) (D : va_G) (cl : List vw_C) (tc : Nat → ClassId) (ad oa : Nat → Nat) (Ns : List (String × String)) (sn : Nat → String × String) (T : ycT) (Ts : List Cond) (yN : Nat → MethodName) (yB : Nat → ByteArray) (yR : Nat → Option FieldType) (M : Nat → Prop) (k : Nat) : Prop :=
  ∀ (p : Program) (e : Env) (R : Room) (s : State) (m : MethodId) (args : Array Value) (below : List Frame) (meth : Method) (c : Code) (A : Nat → Prop) (mid : Nat), ycCx p l e R s m args meth c D cl tc ad oa Ns sn T Ts yN yB yR A mid → M mid → ∀ (mc ms : Nat) (uu : ycL), mc ≤ R.cells → ms ≤ R.slots → ∀ (fr : ycF) (g : ycH) (u : ycL) (cells slots : Nat), ycrun T k mid fr g = some u → yccore u uu → cells + u.2.2.1 = mc → slots + u.2.2.2.1 = ms →
    ychold p l e R s m args below meth c (ycZ below D cl tc ad oa A args s mc ms uu) cl D A tc ad oa (ytMI T mid).2.1 cells slots fr g
theorem ycwd_own {cm : Nat} (hm : ycMth T Ts Ns sn cl yN yB yR cm) : (bif (ytHD T cm).isEmpty then Cond.code (yN cm) (yB cm) (ytMI T cm).2.1 (yR cm) else Cond.codeWith (yN cm) (yB cm) (ytMI T cm).2.1 (yR cm) (ytHD T cm)) ∈ Ts := by
  obtain ⟨-, -, -, h, -⟩ := hm
  cases hE : (ytHD T cm).isEmpty with
  | true => rw [hE] at h; exact h
  | false => rw [hE] at h; exact h
theorem ycMet_of {k cm sz : Nat} {As : List ycV} {g : ycH} {u : ycL} (hok : ycok T Ts Ns sn cl yN yB yR M) (HK : ycHold l D cl tc ad oa Ns sn T Ts yN yB yR M k) (hM : M cm) (hl9 : l.stackTraces = false) (hadd : ∀ k, ad (k + 1) = ad k + 1)
    (hrun : ycrun T k cm (0, ycargs 0 As, []) g = some u) (hw : ycwide As ≤ (ytMI T cm).2.1) : ycMet l D cl tc ad oa Ns sn T Ts yN yB yR cm As g u sz := by
  obtain ⟨w1, w2, w3, w4, w5, w6, w7, w8, w9, w10, w11⟩ := id hok
  obtain ⟨⟨m1, m2, m3, m4, m5, m6, m7, m8⟩, mX, mN, mA, mS, mC⟩ := w11 cm hM
  have body : ∀ (p : Program) (e : Env) (s : State) (m : MethodId) (args : Array Value) (below : List Frame) (meth : Method) (c : Code) (s₁ : State), BodyLoose p l (yN cm) (headSpec (ycwd T Ts yN yB yR cm) ({ frames := (ytRM T cm).1, locals := (ytRM T cm).2, cells := u.2.2.1, slots := u.2.2.2.1 })) (yB cm) (ytMI T cm).2.1 (yR cm) e s m args below meth c s₁ → c.maxLocals = (ytMI T cm).2.1 → c.exceptionTable.toList = tableOf (ytHD T cm) → va_Pc (As.map (ycv ad oa)) (ycPw D cl tc ad oa Ns (ytOL T) sn g sz) args s →
      W p l e (headSpec (ycwd T Ts yN yB yR cm) ({ frames := (ytRM T cm).1, locals := (ytRM T cm).2, cells := u.2.2.1, slots := u.2.2.2.1 })).room s m args below meth c s.heap [] 0 0 (vx_MQ below (ycQc D cl tc ad oa (va_A (ycws ad oa tc g.1 g.2.1) sz) (sz + u.2.2.1) u) (ycXC D cl tc ad oa (va_A (ycws ad oa tc g.1 g.2.1) sz) (sz + u.2.2.1) u) args s u.2.2.1 u.2.2.2.1 (va_A (ycws ad oa tc g.1 g.2.1) sz)) (entryFrame m args (ytMI T cm).2.1) := by
    intro p e s m args below meth c s₁ B hml htab hv
    obtain ⟨rfl, hsz, hP, hD, hK, hm, hE⟩ := hv
    subst hsz
    have hts : ∀ w ∈ Ts, w.before (As.map (ycv ad oa)).toArray s = true := fun w hw => atoms_spec (ws := ycwd T Ts yN yB yR cm) B.pre w (List.mem_cons_of_mem _ hw)
    have hcx : ycCx p l e ({ frames := (ytRM T cm).1, locals := (ytRM T cm).2, cells := u.2.2.1, slots := u.2.2.2.1 }) s m (As.map (ycv ad oa)).toArray meth c D cl tc ad oa Ns sn T Ts yN yB yR (va_A (ycws ad oa tc g.1 g.2.1) s.heap.size) cm :=
      ⟨B.exec, hl9, B.bytes, hml, B.returns, B.notSynchronized, findClass_of_methodNamed B.named, hts, fun z => (name_of_methodNamed B.named B.method).1.trans (m6 z), hK, fun q hq => Or.inr hq, hE, htab, Nat.le_refl _, Nat.le_refl _, hadd⟩
    have hh := HK p e _ s m _ below meth c _ cm hcx hM u.2.2.1 u.2.2.2.1 u (Nat.le_refl _) (Nat.le_refl _) (0, ycargs 0 As, []) g u 0 0 hrun ⟨rfl, rfl, rfl⟩ (Nat.zero_add _) (Nat.zero_add _)
    have hle : (lg_sl (As.map (ycv ad oa))).length ≤ (ytMI T cm).2.1 := by rw [ycwide_s]; exact hw
    have hl := lv_entry (As.map (ycv ad oa)) hle
    rw [← ycargs_s] at hl
    rw [lg_entry_eq]
    exact hh s.heap [] _ hP hD.self va_S.rf (fun z => ⟨by rw [Nat.add_zero]; exact hm z, Nat.le_refl _⟩) hl
  unfold ycMet
  cases hE : (ytHD T cm).isEmpty with
  | true =>
    refine vx_ofW (cc := yB cm) (maxL := (ytMI T cm).2.1) (ret := yR cm) (ws' := Ts) m1 (by unfold ycwd; rw [hE]; rfl) ?_
    intro p e s m args below meth c s₁ B hml ht hv
    refine body p e s m args below meth c s₁ B hml ?_ hv
    rw [List.isEmpty_iff.mp hE]
    cases hL : c.exceptionTable.toList with
    | nil => rfl
    | cons x L => exact absurd (ht x (by rw [hL]; exact List.mem_cons_self)) id
  | false =>
    refine vx_ofWH (cc := yB cm) (maxL := (ytMI T cm).2.1) (ret := yR cm) (hh := ytHD T cm) (ws' := Ts) m1 (by unfold ycwd; rw [hE]; rfl) ?_
    intro p e s m args below meth c s₁ B hml hv
    refine body p e s m args below meth c s₁ B hml ?_ hv
    have h1 := atoms_spec (ws := ycwd T Ts yN yB yR cm) B.pre _ List.mem_cons_self
    rw [hE] at h1
    exact vx_table (x := yN cm) B h1
end YC12
section YC13
variable {p : Program} {l : Launch} {e : Env} {R : Room} {s : State} {m : MethodId} {args : Array Value} {below : List Frame} {meth : Method} {c : Code} {cl : List vw_C} {D : va_G} {A : Nat → Prop} {tc : Nat → ClassId} {ad oa : Nat → Nat} {cells slots : Nat}
variable {Ns : List (String × String)} {sn : Nat → String × String} {T : ycT} {Ts : List Cond} {yN : Nat → MethodName} {yB : Nat → ByteArray} {yR : Nat → Option FieldType} {mid : Nat} {M : Nat → Prop}
theorem ycpass_t {ee pc : Nat} (hok : ycok T Ts Ns sn cl yN yB yR M) (hcx : ycCx p l e R s m args meth c D cl tc ad oa Ns sn T Ts yN yB yR A mid) (hM : M mid) (he5 : ee < 5) {L : List (Nat × Nat × Nat × Nat)} (h : ∀ z ∈ L, ycpass (ytNX T mid) ee pc z) :
    ∀ z ∈ tableOf L, covers z pc = false ∨ (z.catchType ≠ 0 ∧ ∃ nm : String, (Cond.classLink (yN mid).cls z.catchType nm).before args s = true ∧ va_Nc (ycXn ee) nm s) := by
  obtain ⟨w1, w2, w3, w4, w5, w6, w7, w8, w9, w10, w11⟩ := id hok
  obtain ⟨mM, mX, mN, mA, mS, mC⟩ := w11 mid hM
  obtain ⟨x1, x2, x3, x4, x5, x6, x7, x8, x9, x10, x11, x12, -⟩ := hcx
  intro z hz
  obtain ⟨q, hq, rfl⟩ := List.mem_map.mp hz
  rcases h q hq with h1 | ⟨e2, n, h2, h3⟩
  · exact Or.inl (by rw [yccov]; exact h1)
  · obtain ⟨y1, y2, y3, y4, y5⟩ := mX.1 _ _ _ h2
    exact Or.inr ⟨y3, _, x8 _ y4, x12.1 _ (w4 ee e2 he5 y1 (fun z => h3 z.symm))⟩
set_option maxHeartbeats 1000000 in
theorem ycback_s {k pc ret mc ms : Nat} {uu u u1 : ycL} {lv : List (Nat × ycV)} {rest : List ycV} {g : ycH} {H : Heap} {locs : List Loc} {ls : Array Slot} {st0 : List Value} {a : Array Value} (hok : ycok T Ts Ns sn cl yN yB yR M) (HK : ycHold l D cl tc ad oa Ns sn T Ts yN yB yR M k) (hcx : ycCx p l e R s m args meth c D cl tc ad oa Ns sn T Ts yN yB yR A mid) (hM : M mid) (hmc : mc ≤ R.cells) (hms : ms ≤ R.slots)
    (h : ycback T (ycrun T k) mid pc lv rest ret g.2.2 u1 = some u) (hu : yccore u uu) (hc : cells + u.2.2.1 = mc) (hs : slots + u.2.2.2.1 = ms)
    (hD : va_D A (ycws ad oa tc g.1 g.2.1)) (hS : va_S A s.heap H locs) (hsz : g.2.2 = true → H.size = s.heap.size + cells) (hl : lv_has ls (ytMI T mid).2.1 (yclv ad oa lv))
    (hr : vx_Run p l e R s m args below meth c H locs cells slots u1.2.2.1 u1.2.2.2.1 (F0 m pc ls st0) (rest.map (ycv ad oa)) (ycQc D cl tc ad oa (va_A (ycws ad oa tc g.1 g.2.1) H.size) (H.size + u1.2.2.1) u1 a) (ycXC D cl tc ad oa (va_A (ycws ad oa tc g.1 g.2.1) H.size) (H.size + u1.2.2.1) u1) (va_A (ycws ad oa tc g.1 g.2.1) H.size)) :
    W p l e R s m args below meth c H locs cells slots (ycZ below D cl tc ad oa A args s mc ms uu) (F0 m pc ls st0) := by
  obtain ⟨w1, w2, w3, w4, w5, w6, w7, w8, w9, w10, w11⟩ := id hok
  obtain ⟨⟨m1, m2, m3, m4, m5, m6, m7, m8⟩, mX, mN, mA, mS, mC⟩ := w11 mid hM
  obtain ⟨x1, x2, x3, x4, x5, x6, x7, x8, x9, x10, x11, x12, x13, x14, x15, x16⟩ := id hcx
  have hkn : ∀ {H1 : Heap}, (u1.2.2.2.2.2.2 = true → ad u1.2.2.2.2.2.1 = H.size + u1.2.2.1 ∧ H.size + u1.2.2.1 ≤ H1.size) → ((u1.2.2.2.2.2.2 && g.2.2) = true → ad u1.2.2.2.2.2.1 = s.heap.size + (cells + u1.2.2.1) ∧ s.heap.size + (cells + u1.2.2.1) ≤ H1.size) := by
    intro H1 hm1 z
    rw [Bool.and_eq_true] at z
    have h1 := hm1 z.1
    have h2 := hsz z.2
    omega
  have hgo : ∀ (fr2 : ycF) (u2 : ycL), ycrun T k mid fr2 (u1.2.2.2.2.1, u1.2.2.2.2.2.1, u1.2.2.2.2.2.2 && g.2.2) = some u2 → u = ycmore u1.2.2.1 u1.2.2.2.1 u2 →
      ychold p l e R s m args below meth c (ycZ below D cl tc ad oa A args s mc ms uu) cl D A tc ad oa (ytMI T mid).2.1 (cells + u1.2.2.1) (slots + u1.2.2.2.1) fr2 (u1.2.2.2.2.1, u1.2.2.2.2.2.1, u1.2.2.2.2.2.2 && g.2.2) := by
    intro fr2 u2 hrun hu2
    subst hu2
    exact HK p e R s m args below meth c A mid hcx hM mc ms uu hmc hms fr2 _ u2 _ _ hrun hu (by rw [Nat.add_assoc]; exact hc) (by rw [Nat.add_assoc]; exact hs)
  unfold ycback at h
  split at h
  · rename_i h1
    cases hq : Nat.beq ret 0 with
    | false => rw [hq] at h; cases h
    | true =>
      rw [hq] at h
      obtain ⟨u2, hrun, hu2⟩ := ycthen_s h
      refine yc_call hr hS (yc_asub hD hS x11) (fun _ H1 locs1 hP1 hD1 hS1 hm1 => ?_) (fun ee hee => by omega)
      have h2 := hgo _ u2 hrun hu2 H1 locs1 ls hP1 hD1 hS1 (hkn hm1) hl
      have e1 : ycrv ad oa u1 = none := by unfold ycrv; rw [h1]; rfl
      rw [e1]
      exact h2
  · rename_i h1
    cases hq : Nat.beq ret 0 with
    | true => rw [hq] at h; cases h
    | false =>
      rw [hq] at h
      obtain ⟨u2, hrun, hu2⟩ := ycthen_s h
      refine yc_call hr hS (yc_asub hD hS x11) (fun _ H1 locs1 hP1 hD1 hS1 hm1 => ?_) (fun ee hee => by omega)
      have h2 := hgo _ u2 hrun hu2 H1 locs1 ls hP1 hD1 hS1 (hkn hm1) hl
      have e1 : ycrv ad oa u1 = some (ycv ad oa u1.2.1) := by unfold ycrv; rw [h1]; rfl
      rw [e1]
      exact h2
  · rename_i e0 h1
    refine yc_call hr hS (yc_asub hD hS x11) (fun hle => by omega) (fun ee hee he5 H1 locs1 q9 ce hP1 hD1 hS1 hm1 hce hcv hcl => ?_)
    have hee0 : e0 = ee := by omega
    subst hee0
    split at h
    · cases h
    · rename_i hh
      have hpass := ycpass_t hok hcx hM he5 (ychand_none hh)
      rw [← x13] at hpass
      have hu0 := Option.some.inj h
      subst hu0
      obtain ⟨c1, c2, c3⟩ := hu
      refine vx_outP (E := ycXn e0) x7 x6 hpass hce hcv hcl (fun t ht hal => ?_) hS1.2.2 (Nat.le_of_eq hc) (Nat.le_of_eq hs)
      refine ⟨e0, c1.symm, he5, rfl, ?_, hS1.F ht⟩
      rw [← c3]
      refine ⟨by rw [ht]; exact hP1, hD1, va_K.moved hal x10, fun z => ?_⟩
      rw [ht, ← hc]
      exact hkn hm1 z
    · rename_i hn9 hh
      obtain ⟨pre, x, suf, hL, hpre, hx, ⟨n9, hNX⟩, rfl⟩ := ychand_some hh
      obtain ⟨y1, y2, y3, y4, y5⟩ := mX.1 _ _ _ hNX
      have hpass := ycpass_t hok hcx hM he5 hpre
      have hsplit : c.exceptionTable.toList = tableOf pre ++ (⟨x.1, x.2.1, x.2.2.1, x.2.2.2⟩ : ExceptionTableEntry) :: tableOf suf := by
        rw [x13, hL]
        unfold tableOf
        rw [List.map_append, List.map_cons]
      have hdrop : ∀ kk : Nat, (yclv ad oa lv).filter (fun q => !(q.1 == kk) && !(q.1 + 1 == kk && q.2.category == 2)) = yclv ad oa (ycdrop lv kk) := fun kk => (List.cons.inj (ycst1_s ad oa lv kk (3, 0))).2
      refine vx_catch (name := ycXn e0) (E := ycXn e0) x7 _ _ _ hsplit hpass (by rw [yccov]; exact hx) y3 (x8 _ y4) (x8 _ (w5 e0 he5)) hce hcv hcl ?_
      split at h
      · rename_i kk hPh
        cases hq : Nat.blt kk (ytMI T mid).2.1 with
        | false => rw [hq] at h; cases h
        | true =>
          rw [hq] at h
          obtain ⟨u2, hrun, hu2⟩ := ycthen_s h
          have h2 := hgo _ u2 hrun hu2
          refine lv_astore_n x1 x3 (m8 _ _ hPh) rfl hl (Nat.ble_eq.mp hq) rfl (fun ls' hl' => ?_)
          rw [hdrop] at hl'
          exact h2 H1 locs1 ls' hP1 hD1 hS1 (hkn hm1) ⟨hl'.1, hl'.2.1, fun q hq => hl'.2.2 q (List.mem_cons_of_mem _ hq)⟩
      · rename_i kk hPh
        cases hq : Nat.blt kk (ytMI T mid).2.1 with
        | false => rw [hq] at h; cases h
        | true =>
          rw [hq] at h
          obtain ⟨u2, hrun, hu2⟩ := ycthen_s h
          have h2 := hgo _ u2 hrun hu2
          refine lv_astore x1 x3 (m8 _ _ hPh) hl (Nat.ble_eq.mp hq) rfl (fun ls' hl' => ?_)
          rw [hdrop] at hl'
          exact h2 H1 locs1 ls' hP1 hD1 hS1 (hkn hm1) ⟨hl'.1, hl'.2.1, fun q hq => hl'.2.2 q (List.mem_cons_of_mem _ hq)⟩
      · cases h
end YC13
