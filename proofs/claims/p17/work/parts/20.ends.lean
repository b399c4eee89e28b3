section YC11
variable {p : Program} {l : Launch} {e : Env} {R : Room} {s : State} {m : MethodId} {args : Array Value} {below : List Frame} {meth : Method} {c : Code} {Q : State → Prop} {cl : List vw_C} {D : va_G} {A : Nat → Prop} {tc : Nat → ClassId} {ad oa : Nat → Nat} {nL cells slots : Nat}
variable {Ns : List (String × String)} {sn : Nat → String × String} {T : ycT} {Ts : List Cond} {yN : Nat → MethodName} {yB : Nat → ByteArray} {yR : Nat → Option FieldType} {mid : Nat} {M : Nat → Prop}
theorem yc_call {u1 : ycL} {A1 : Nat → Prop} {H : Heap} {locs : List Loc} {a : Array Value} {pc : Nat} {ls : Array Slot} {st0 rest : List Value} (hr : vx_Run p l e R s m args below meth c H locs cells slots u1.2.2.1 u1.2.2.2.1 (F0 m pc ls st0) rest (ycQc D cl tc ad oa A1 (H.size + u1.2.2.1) u1 a) (ycXC D cl tc ad oa A1 (H.size + u1.2.2.1) u1) A1)
    (hS : va_S A s.heap H locs) (hA : ∀ q, A1 q → A q)
    (kv : u1.1 ≤ 1 → ∀ (H1 : Heap) (locs1 : List Loc), va_P D cl (ycws ad oa tc u1.2.2.2.2.1 u1.2.2.2.2.2.1) H1 → va_D A (ycws ad oa tc u1.2.2.2.2.1 u1.2.2.2.2.2.1) → va_S A s.heap H1 locs1 → (u1.2.2.2.2.2.2 = true → ad u1.2.2.2.2.2.1 = H.size + u1.2.2.1 ∧ H.size + u1.2.2.1 ≤ H1.size) → W p l e R s m args below meth c H1 locs1 (cells + u1.2.2.1) (slots + u1.2.2.2.1) Q (F0 m (pc + 3) ls ((ycrv ad oa u1).toList ++ rest)))
    (kx : ∀ ee, u1.1 = ee + 2 → ee < 5 → ∀ (H1 : Heap) (locs1 : List Loc) (q9 : Addr) (ce : Cell), va_P D cl (ycws ad oa tc u1.2.2.2.2.1 u1.2.2.2.2.2.1) H1 → va_D A (ycws ad oa tc u1.2.2.2.2.1 u1.2.2.2.2.2.1) → va_S A s.heap H1 locs1 → (u1.2.2.2.2.2.2 = true → ad u1.2.2.2.2.2.1 = H.size + u1.2.2.1 ∧ H.size + u1.2.2.1 ≤ H1.size) → H1[q9]? = some ce → ce.vm = .none → s.vm.findClass (ycXn ee) = some ce.cls → vx_W p l e R s m args below meth c H1 locs1 (cells + u1.2.2.1) (slots + u1.2.2.2.1) Q (F0 m pc ls rest) q9) :
    W p l e R s m args below meth c H locs cells slots Q (F0 m pc ls st0) := by
  intro T9 hT X
  rcases hr T9 hT X with ⟨v, st₀, t, T', L, h0, X', hL, e1, e2, hq, st⟩ | ⟨q, st₀, t, T', L, E, ce, h0, X', hL, e1, e2, hx, hce, hcv, hcl, st⟩
  · obtain ⟨hle, ho, ⟨hP1, hD1, hK1, hm1⟩, hF⟩ := hq
    have hv := Outcome.returned.inj ho
    subst hv
    obtain ⟨k1, k2, k3⟩ := vx_keep h0 e1 hS (fun q _ => hA q) hA hL hF
    obtain ⟨t2, a1, b1⟩ := kv hle T'.heap (locs ++ L) (by rw [e1]; exact hP1) (hD1.weaken (fun _ _ _ z => hA _ z)) k3 (by rw [e1]; exact hm1) T' rfl X'
    exact ⟨t2, st t2 a1, b1⟩
  · obtain ⟨ee, hee, he5, rfl, ⟨hP1, hD1, hK1, hm1⟩, hF⟩ := hx
    obtain ⟨k1, k2, k3⟩ := vx_keep h0 e1 hS (fun q _ => hA q) hA hL hF
    obtain ⟨t2, a1, b1⟩ := kx ee hee he5 T'.heap (locs ++ L) q ce (by rw [e1]; exact hP1) (hD1.weaken (fun _ _ _ z => hA _ z)) k3 (by rw [e1]; exact hm1) (by rw [e1]; exact hce) hcv hcl T' rfl X'
    exact ⟨t2, st.trans a1, b1⟩
theorem yc_asub {g : ycH} {H : Heap} {locs : List Loc} (hD : va_D A (ycws ad oa tc g.1 g.2.1)) (hS : va_S A s.heap H locs) (hA : ∀ q, s.heap.size ≤ q → A q) : ∀ q, va_A (ycws ad oa tc g.1 g.2.1) H.size q → A q := by
  intro q h
  rcases h with ⟨k, e9, h⟩ | h
  · exact hD.2 k _ h
  · exact hA q (Nat.le_trans hS.1 h)
theorem yc_pre {g : ycH} {H : Heap} {locs : List Loc} {av : List Value} {old : Nat → Nat × (Nat → Int)} (hP : va_P D cl (ycws ad oa tc g.1 g.2.1) H) (hD : va_D A (ycws ad oa tc g.1 g.2.1)) (hS : va_S A s.heap H locs) (hA : ∀ q, s.heap.size ≤ q → A q) (hK : va_K D cl (yctys tc) s) (hm : g.2.2 = true → ad g.2.1 = H.size) (hE : ycEnv Ns old sn oa A s s.heap) :
    ∀ U : State, U.heap = H → s.WarmedH U.vm → va_Pc av (ycPw D cl tc ad oa Ns old sn g H.size) av.toArray U := by
  intro U hU hW
  refine ⟨rfl, by rw [hU], by rw [hU]; exact hP, hD.weaken (fun _ _ _ _ => trivial), va_K.moved hW.alike hK, hm, ?_⟩
  exact ycEnv_at hE hS hW.alike hU (yc_asub hD hS hA)
theorem yccov (q : Nat × Nat × Nat × Nat) (pc : Nat) : covers ⟨q.1, q.2.1, q.2.2.1, q.2.2.2⟩ pc = (Nat.ble q.1 pc && Nat.blt pc q.2.1) := by
  show (decide (q.1 ≤ pc) && decide (pc < q.2.1)) = _
  congr 1
  · cases hb : Nat.ble q.1 pc with
    | true => exact decide_eq_true (Nat.ble_eq.mp hb)
    | false => exact decide_eq_false (fun z => by rw [Nat.ble_eq.mpr z] at hb; cases hb)
  · cases hb : Nat.blt pc q.2.1 with
    | true => exact decide_eq_true (Nat.ble_eq.mp hb)
    | false => exact decide_eq_false (fun z => by rw [show Nat.blt pc q.2.1 = true from Nat.ble_eq.mpr z] at hb; cases hb)
def ycpass (NX : Nat → Option (Nat × Nat)) (ee pc : Nat) (z : Nat × Nat × Nat × Nat) : Prop := (Nat.ble z.1 pc && Nat.blt pc z.2.1) = false ∨ ∃ e2 n, NX z.2.2.2 = some (e2, n) ∧ e2 ≠ ee
theorem ychand_some {NX : Nat → Option (Nat × Nat)} {ee pc h : Nat} : ∀ {L : List (Nat × Nat × Nat × Nat)}, ychand NX ee pc L = some (some h) → ∃ (pre : List (Nat × Nat × Nat × Nat)) (x : Nat × Nat × Nat × Nat) (suf : List (Nat × Nat × Nat × Nat)), L = pre ++ x :: suf ∧ (∀ z ∈ pre, ycpass NX ee pc z) ∧ (Nat.ble x.1 pc && Nat.blt pc x.2.1) = true ∧ (∃ n, NX x.2.2.2 = some (ee, n)) ∧ h = x.2.2.1 := by
  intro L
  induction L with
  | nil => intro h9; cases h9
  | cons q L ih =>
    intro h9
    unfold ychand at h9
    cases hc : Nat.ble q.1 pc && Nat.blt pc q.2.1 with
    | false =>
      rw [hc] at h9
      obtain ⟨pre, x, suf, h1, h2, h3⟩ := ih h9
      exact ⟨q :: pre, x, suf, by rw [h1]; rfl, fun z hz => (List.mem_cons.mp hz).elim (fun w => by rw [w]; exact Or.inl hc) (h2 z), h3⟩
    | true =>
      rw [hc] at h9
      change (match NX q.2.2.2 with | some x => bif Nat.beq x.1 ee then some (some q.2.2.1) else ychand NX ee pc L | none => none) = some (some h) at h9
      split at h9
      · rename_i x hx
        cases hb : Nat.beq x.1 ee with
        | true =>
          rw [hb] at h9
          have e9 := Nat.eq_of_beq_eq_true hb
          refine ⟨[], q, L, rfl, (fun z hz => by cases hz), hc, ⟨x.2, by rw [hx, ← e9]⟩, (Option.some.inj (Option.some.inj h9)).symm⟩
        | false =>
          rw [hb] at h9
          obtain ⟨pre, y, suf, h1, h2, h3⟩ := ih h9
          exact ⟨q :: pre, y, suf, by rw [h1]; rfl, fun z hz => (List.mem_cons.mp hz).elim (fun w => by rw [w]; exact Or.inr ⟨x.1, x.2, hx, Nat.ne_of_beq_eq_false hb⟩) (h2 z), h3⟩
      · cases h9
theorem ychand_none {NX : Nat → Option (Nat × Nat)} {ee pc : Nat} : ∀ {L : List (Nat × Nat × Nat × Nat)}, ychand NX ee pc L = some none → ∀ z ∈ L, ycpass NX ee pc z := by
  intro L
  induction L with
  | nil => intro _ z hz; cases hz
  | cons q L ih =>
    intro h9
    unfold ychand at h9
    cases hc : Nat.ble q.1 pc && Nat.blt pc q.2.1 with
    | false =>
      rw [hc] at h9
      exact fun z hz => (List.mem_cons.mp hz).elim (fun w => by rw [w]; exact Or.inl hc) (ih h9 z)
    | true =>
      rw [hc] at h9
      change (match NX q.2.2.2 with | some x => bif Nat.beq x.1 ee then some (some q.2.2.1) else ychand NX ee pc L | none => none) = some none at h9
      split at h9
      · rename_i x hx
        cases hb : Nat.beq x.1 ee with
        | true => rw [hb] at h9; cases h9
        | false =>
          rw [hb] at h9
          exact fun z hz => (List.mem_cons.mp hz).elim (fun w => by rw [w]; exact Or.inr ⟨x.1, x.2, hx, Nat.ne_of_beq_eq_false hb⟩) (ih h9 z)
      · cases h9
theorem ycthen_s {mc ms : Nat} {r : Option ycL} {u : ycL} (h : ycthen mc ms r = some u) : ∃ u2, r = some u2 ∧ u = ycmore mc ms u2 := by
  unfold ycthen at h
  split at h
  · rename_i u2
    exact ⟨u2, rfl, (Option.some.inj h).symm⟩
  · cases h
/-- the same end, whatever was made on the way -/
def yccore (u v : ycL) : Prop := u.1 = v.1 ∧ u.2.1 = v.2.1 ∧ u.2.2.2.2 = v.2.2.2.2
abbrev ycZ (below : List Frame) (D : va_G) (cl : List vw_C) (tc : Nat → ClassId) (ad oa : Nat → Nat) (A : Nat → Prop) (args : Array Value) (s : State) (mc ms : Nat) (uu : ycL) : State → Prop := vx_MQ below (ycQc D cl tc ad oa A (s.heap.size + mc) uu) (ycXC D cl tc ad oa A (s.heap.size + mc) uu) args s mc ms A
theorem ycret_s {ins : Instr} {pc mc ms : Nat} {lv : List (Nat × ycV)} {st : List ycV} {g : ycH} {u uu : ycL} (hexec : p.tables.exec = Jvm.exec) (hb : c.code = yB mid) (hr : meth.sig.returnType = yR mid) (hlocks : meth.locks = false) (hK : va_K D cl (yctys tc) s) (hrt : ycrt (ytMI T mid).2.2.1 (yR mid))
    (hdg : decode (yB mid) pc = .ok (ins, 1)) (h : ycret ins (ytMI T mid).2.2.1 st g = some u) (hu : yccore u uu) (hc : cells + u.2.2.1 = mc) (hs : slots + u.2.2.2.1 = ms) :
    ychold p l e R s m args below meth c (ycZ below D cl tc ad oa A args s mc ms uu) cl D A tc ad oa nL cells slots (pc, lv, st) g := by
  obtain ⟨c1, c2, c3⟩ := hu
  generalize (ytMI T mid).2.2.1 = ret at h hrt
  have key : ∀ (H : Heap) (locs : List Loc) (v : Option Value), u.2.2.1 = 0 → u.2.2.2.1 = 0 → u.2.2.2.2 = g → u.1 ≤ 1 → v = ycrv ad oa u → va_P D cl (ycws ad oa tc g.1 g.2.1) H → va_D A (ycws ad oa tc g.1 g.2.1) → va_S A s.heap H locs → (g.2.2 = true → ad g.2.1 = s.heap.size + cells ∧ s.heap.size + cells ≤ H.size) →
      ∀ t : State, t.heap = H → s.WarmedH t.vm → ycQc D cl tc ad oa A (s.heap.size + mc) uu args s (.returned v) t := by
    intro H locs v u1 u2 u3 u4 hv hP hD hS hm t ht hW
    refine ⟨by rw [← c1]; exact u4, ?_, ?_, hS.F ht⟩
    · rw [hv]
      unfold ycrv
      rw [c1, c2]
    · rw [← c3, u3]
      exact ⟨by rw [ht]; exact hP, hD, va_K.moved hW.alike hK, fun z => by rw [ht, ← hc, u1]; exact hm z⟩
  unfold ycret at h
  split at h
  · cases hq : Nat.beq ret 0 with
    | false => rw [hq] at h; cases h
    | true =>
      rw [hq] at h
      have e0 := Nat.eq_of_beq_eq_true hq
      subst e0
      cases h
      intro H locs ls hP hD hS hm hl
      cases hc
      cases hs
      exact vx_ret (W.vret hexec hb (hr.trans hrt) (key H locs none rfl rfl rfl (Nat.zero_le 1) rfl hP hD hS hm) hS.2.2 hdg hlocks)
  · rename_i v
    cases hq : Nat.beq ret 1 || (Nat.beq ret 2 && ycfit 1 (0, v)) with
    | false => rw [hq] at h; cases h
    | true =>
      rw [hq] at h
      cases h
      intro H locs ls hP hD hS hm hl
      cases hc
      cases hs
      have hk := key H locs _ rfl rfl rfl (Nat.le_refl 1) rfl hP hD hS hm
      rw [Bool.or_eq_true, Bool.and_eq_true] at hq
      rcases hq with hq | ⟨hq, hf⟩
      · have e0 := Nat.eq_of_beq_eq_true hq
        subst e0
        exact vx_ret (W.iret hexec hb (hr.trans hrt) hk hS.2.2 hdg hlocks)
      · have e0 := Nat.eq_of_beq_eq_true hq
        subst e0
        exact vx_ret (W.zret hexec hb (hr.trans hrt) (ycfit_s (ad := ad) (oa := oa) hf rfl).1 hk hS.2.2 hdg hlocks)
  · rename_i v
    cases hq : Nat.beq ret 3 with
    | false => rw [hq] at h; cases h
    | true =>
      rw [hq] at h
      have e0 := Nat.eq_of_beq_eq_true hq
      subst e0
      cases h
      intro H locs ls hP hD hS hm hl
      cases hc
      cases hs
      exact vx_ret (W.lret hexec hb (hr.trans hrt) (key H locs _ rfl rfl rfl (Nat.le_refl 1) rfl hP hD hS hm) hS.2.2 hdg hlocks)
  · rename_i v
    cases hq : Nat.beq ret 4 with
    | false => rw [hq] at h; cases h
    | true =>
      rw [hq] at h
      have e0 := Nat.eq_of_beq_eq_true hq
      subst e0
      cases h
      obtain ⟨rt, hrt1, hrt2⟩ := hrt
      intro H locs ls hP hD hS hm hl
      cases hc
      cases hs
      exact vx_ret (W.aret hexec hb (hr.trans hrt1) hrt2 (Or.inr ⟨_, rfl⟩) (key H locs _ rfl rfl rfl (Nat.le_refl 1) rfl hP hD hS hm) hS.2.2 hdg hlocks)
  · cases h
end YC11
