section YC15
variable {p : Program} {l : Launch} {e : Env} {R : Room} {s : State} {m : MethodId} {args : Array Value} {below : List Frame} {meth : Method} {c : Code} {cl : List vw_C} {D : va_G} {A : Nat → Prop} {tc : Nat → ClassId} {ad oa : Nat → Nat} {cells slots : Nat}
variable {Ns : List (String × String)} {sn : Nat → String × String} {T : ycT} {Ts : List Cond} {yN : Nat → MethodName} {yB : Nat → ByteArray} {yR : Nat → Option FieldType} {mid : Nat} {M : Nat → Prop}
theorem ycthrow_s {i ee n mc ms : Nat} {fr : ycF} {g : ycH} {u uu : ycL} (hok : ycok T Ts Ns sn cl yN yB yR M) (hcx : ycCx p l e R s m args meth c D cl tc ad oa Ns sn T Ts yN yB yR A mid) (hM : M mid) (hmc : mc ≤ R.cells) (hms : ms ≤ R.slots)
    (hNX : ytNX T mid i = some (ee, n)) (hdg : decode (yB mid) fr.1 = .ok (.new i, 3)) (h : ycthrow T mid i ee n fr g = some u) (hu : yccore u uu) (hc : cells + u.2.2.1 = mc) (hs : slots + u.2.2.2.1 = ms) :
    ychold p l e R s m args below meth c (ycZ below D cl tc ad oa A args s mc ms uu) cl D A tc ad oa (ytMI T mid).2.1 cells slots fr g := by
  obtain ⟨w1, w2, w3, w4, w5, w6, w7, w8, w9, w10, w11⟩ := id hok
  obtain ⟨⟨m1, m2, m3, m4, m5, m6, m7, m8⟩, mX, mN, mA, mS, mC⟩ := w11 mid hM
  obtain ⟨x1, x2, x3, x4, x5, x6, x7, x8, x9, x10, x11, x12, x13, x14, x15, x16⟩ := id hcx
  obtain ⟨y1, y2, y3, y4, y5⟩ := mX.1 _ _ _ hNX
  subst y2
  unfold ycthrow at h
  split at h
  · rename_i j h3 h4 h7
    obtain ⟨hq, h⟩ := ycbif h
    rw [Bool.and_eq_true, Bool.and_eq_true, Bool.and_eq_true] at hq
    obtain ⟨q1, q2, q3, q4⟩ := hq
    have hNI : ytNI T mid j = some ee := by
      split at q1
      · rename_i e2 he2
        rw [he2, Nat.eq_of_beq_eq_true q1]
      · cases q1
    cases h
    obtain ⟨c1, c2, c3⟩ := hu
    have q3 := Nat.ble_eq.mp q3
    have q4 := Nat.ble_eq.mp q4
    have hc : cells + 1 = mc := hc
    have hs : slots + 6 = ms := hs
    intro H locs ls hP hD hS hm hl
    refine vx_throw0 (names := ycXs) (cls := ycXn ee) x1 x3 x2 x7 (w9 ee y1) w10 (x8 _ y4) (x8 _ y5) (fun w hw => x8 w (mX.2 _ _ hNI w hw).1) (fun w hw => by
      rcases List.mem_cons.mp hw with h | h
      · rw [h]; rfl
      · rcases List.mem_cons.mp h with h | h
        · rw [h]; rfl
        · exact (mX.2 _ _ hNI w h).2) x12.2.2.2.1 x12.2.2.2.2 hS (hl.1.trans x4.symm) hdg (m8 _ _ h3) (m8 _ _ h4) (m8 _ _ h7) ?_ ?_ ?_ ?_ ?_ x6 ?_ hS.2.2 (Nat.le_of_eq hc) (Nat.le_of_eq hs)
    · intro x hx
      rw [x13, List.isEmpty_iff.mp q2] at hx
      cases hx
    · show 2 + 3 < R.frames
      omega
    · rw [yccats_s]
      show ycwide fr.2.2 + (13 * (2 + 1) + 42) ≤ R.locals
      omega
    · omega
    · omega
    · intro t hal hz ho
      refine ⟨ee, c1.symm, y1, rfl, ?_, Nat.le_trans hS.1 hz, fun q a b => (ho q (Nat.lt_of_lt_of_le a hS.1)).trans (hS.2.1 q a b)⟩
      rw [← c3]
      exact ⟨hP.kept (fun k9 x hx => ho x.1 ((hP k9 x hx).lt)), hD, va_K.moved hal x10, fun z => by cases z⟩
  · cases h
theorem ycarr {atype : ArrayType} {kind : Nat} (hok : ycok T Ts Ns sn cl yN yB yR M) (hts : ∀ w ∈ Ts, w.before args s = true) (h : ycak atype = some kind) : (Cond.arrayClass (newarray.typeOf atype)).before args s = true := by
  obtain ⟨w1, w2, w3, w4, w5, ⟨a1, a2, a3⟩, w7⟩ := hok
  cases atype <;> cases h
  · exact hts _ a3
  · exact hts _ a1
  · exact hts _ a2
set_option maxHeartbeats 1000000 in
theorem ycHold_step {k : Nat} (hok : ycok T Ts Ns sn cl yN yB yR M) (HK : ycHold l D cl tc ad oa Ns sn T Ts yN yB yR M k) : ycHold l D cl tc ad oa Ns sn T Ts yN yB yR M (k + 1) := by
  intro p e R s m args below meth c A mid hcx hM mc ms uu hmc hms fr g u cells slots h hu hc hs
  obtain ⟨w1, w2, w3, w4, w5, w6, w7, w8, w9, w10, w11⟩ := id hok
  obtain ⟨⟨m1, m2, m3, m4, m5, m6, m7, m8⟩, mX, mN, mA, mS, mC⟩ := w11 mid hM
  obtain ⟨x1, x2, x3, x4, x5, x6, x7, x8, x9, x10, x11, x12, x13, x14, x15, x16⟩ := id hcx
  rw [ycrun_n] at h
  unfold ycbody at h
  split at h
  · cases h
  · rename_i ins len hP9
    have hdg := m8 _ _ hP9
    have hthen : ∀ {a b : Nat} {fr2 : ycF} {g2 : ycH}, ycthen a b (ycrun T k mid fr2 g2) = some u → ychold p l e R s m args below meth c (ycZ below D cl tc ad oa A args s mc ms uu) cl D A tc ad oa (ytMI T mid).2.1 (cells + a) (slots + b) fr2 g2 := by
      intro a b fr2 g2 h9
      obtain ⟨u2, hrun, rfl⟩ := ycthen_s h9
      exact HK p e R s m args below meth c A mid hcx hM mc ms uu hmc hms fr2 g2 u2 _ _ hrun hu (by rw [Nat.add_assoc]; exact hc) (by rw [Nat.add_assoc]; exact hs)
    have hroom : ∀ {a b : Nat} {r : Option ycL}, ycthen a b r = some u → cells + a ≤ R.cells ∧ slots + b ≤ R.slots := by
      intro a b r h9
      have := ycthen_ge h9
      omega
    have hret : ∀ ins2 : Instr, ins = ins2 → ycretl ins2 len T mid fr g = some u → ychold p l e R s m args below meth c (ycZ below D cl tc ad oa A args s mc ms uu) cl D A tc ad oa (ytMI T mid).2.1 cells slots fr g := by
      intro ins2 hi h9
      subst hi
      obtain ⟨hq, h9⟩ := ycbif h9
      have hl1 := Nat.eq_of_beq_eq_true hq
      subst hl1
      exact ycret_s x1 x3 x5 x6 x10 m5 hdg h9 hu hc hs
    split at h
    · exact hret _ rfl h
    · exact hret _ rfl h
    · exact hret _ rfl h
    · exact hret _ rfl h
    · obtain ⟨hq, h9⟩ := ycbif h
      clear h
      have h := h9
      clear h9
      have hl1 := Nat.eq_of_beq_eq_true hq
      subst hl1
      exact yccall_s hok HK hcx hM hmc hms (Or.inl ⟨rfl, rfl⟩) hdg h hu hc hs
    · obtain ⟨hq, h9⟩ := ycbif h
      clear h
      have h := h9
      clear h9
      have hl1 := Nat.eq_of_beq_eq_true hq
      subst hl1
      exact yccall_s hok HK hcx hM hmc hms (Or.inr (Or.inl ⟨rfl, rfl⟩)) hdg h hu hc hs
    · obtain ⟨hq, h9⟩ := ycbif h
      clear h
      have h := h9
      clear h9
      have hl1 := Nat.eq_of_beq_eq_true hq
      subst hl1
      exact yccall_s hok HK hcx hM hmc hms (Or.inr (Or.inr ⟨rfl, rfl⟩)) hdg h hu hc hs
    · rename_i i
      obtain ⟨hq, h9⟩ := ycbif h
      clear h
      have h := h9
      clear h9
      have hl1 := Nat.eq_of_beq_eq_true hq
      subst hl1
      unfold ycnewi at h
      split at h
      · rename_i ee n hNX
        exact ycthrow_s hok hcx hM hmc hms hNX hdg h hu hc hs
      · split at h
        · rename_i ci N hNC
          obtain ⟨hg, h⟩ := ycbif h
          obtain ⟨C, F, ty, d1, d2, d3, d4, d5, d6, d7, d8⟩ := mN i ci N hNC
          have hr := hroom h
          exact ycnew_s ty x1 x3 x7 x8 x10 x11 x16 d1 d2 d3 d4 d5 d6 d7 (fun j hj => d8 j hj ad oa) hr.1 hr.2 hg hdg (hthen h)
        · cases h
    · rename_i at9
      obtain ⟨hq, h9⟩ := ycbif h
      clear h
      have h := h9
      clear h9
      have hl1 := Nat.eq_of_beq_eq_true hq
      subst hl1
      unfold ycnewa at h
      split at h
      · rename_i kind n rest hak hst
        obtain ⟨hg, h⟩ := ycbif h
        rw [Bool.and_eq_true] at hg
        have hr := hroom h
        obtain ⟨pc9, lv9, st9⟩ := fr
        change st9 = _ at hst
        subst hst
        exact ycnewa_s x1 x3 x10 x11 x16 hak (ycarr hok x8 hak) hg.2 hr.1 hr.2 hg.1 hdg (hthen h)
      · cases h
    · rename_i i
      obtain ⟨hq, h9⟩ := ycbif h
      clear h
      have h := h9
      clear h9
      have hl1 := Nat.eq_of_beq_eq_true hq
      subst hl1
      unfold ycanew at h
      split at h
      · rename_i kind n rest hNA hst
        obtain ⟨hg, h⟩ := ycbif h
        rw [Bool.and_eq_true, Bool.and_eq_true, Bool.or_eq_true] at hg
        obtain ⟨g1, g2, g3⟩ := hg
        have hkk : kind = 17 ∨ kind = 18 := g3.imp Nat.eq_of_beq_eq_true Nat.eq_of_beq_eq_true
        obtain ⟨d1, d2⟩ := (mA i kind hNA).1 hkk
        have hr := hroom h
        obtain ⟨pc9, lv9, st9⟩ := fr
        change st9 = _ at hst
        subst hst
        exact ycanew_s x1 x3 x7 x8 x10 x11 x16 hkk d1 d2 g2 hr.1 hr.2 g1 hdg (hthen h)
      · cases h
    · rename_i i d
      obtain ⟨hq, h9⟩ := ycbif h
      clear h
      have h := h9
      clear h9
      rw [Bool.and_eq_true] at hq
      have hl1 := Nat.eq_of_beq_eq_true hq.1
      have hl2 := Nat.eq_of_beq_eq_true hq.2
      subst hl1
      subst hl2
      unfold ycmul at h
      split at h
      · rename_i kind kk n rest hNA hst
        obtain ⟨hg, h⟩ := ycbif h
        rw [Bool.and_eq_true, Bool.and_eq_true, Bool.and_eq_true, Bool.or_eq_true] at hg
        obtain ⟨g1, g2, g3, g4⟩ := hg
        have hkk : kind = 19 ∨ kind = 20 := g4.imp Nat.eq_of_beq_eq_true Nat.eq_of_beq_eq_true
        obtain ⟨d1, d2⟩ := (mA i kind hNA).2 hkk
        have hki : (kind = 19 ∧ kind - 5 = 14) ∨ (kind = 20 ∧ kind - 5 = 15) := by omega
        have hr := hroom h
        obtain ⟨pc9, lv9, st9⟩ := fr
        change st9 = _ at hst
        subst hst
        refine ycmul_s x1 x3 x7 x8 x10 x11 x16 hki d1 d2 ?_ g2 g3 hr.1 hr.2 g1 hdg (hthen h)
        rcases hkk with rfl | rfl
        · exact w6.1
        · exact w6.2.1
      · cases h
    · obtain ⟨hq, h9⟩ := ycbif h
      clear h
      have h := h9
      clear h9
      split at h
      · rename_i fr2 g2 hstep
        have hgo := HK p e R s m args below meth c A mid hcx hM mc ms uu hmc hms fr2 g2 u cells slots h hu hc hs
        exact ycstep_s x1 x3 x7 x8 x10 x9 m7 w2 w3 x12.2.1 (fun i k hik => by
          obtain ⟨d1, d2, d3, d4⟩ := mS i k hik
          have hZ := x12.2.2.1 k d1 d2
          rw [d3] at hZ
          exact ⟨_, d4, hZ⟩) hdg hq hstep hgo
      · cases h
theorem ycHold_all (hok : ycok T Ts Ns sn cl yN yB yR M) : ∀ k, ycHold l D cl tc ad oa Ns sn T Ts yN yB yR M k
  | 0 => fun p e R s m args below meth c A mid hcx hM mc ms uu hmc hms fr g u cells slots h => by cases h
  | k + 1 => ycHold_step hok (ycHold_all hok k)
end YC15
