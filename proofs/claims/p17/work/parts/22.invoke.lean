section YC14
variable {p : Program} {l : Launch} {e : Env} {R : Room} {s : State} {m : MethodId} {args : Array Value} {below : List Frame} {meth : Method} {c : Code} {cl : List vw_C} {D : va_G} {A : Nat → Prop} {tc : Nat → ClassId} {ad oa : Nat → Nat} {cells slots : Nat}
variable {Ns : List (String × String)} {sn : Nat → String × String} {T : ycT} {Ts : List Cond} {yN : Nat → MethodName} {yB : Nat → ByteArray} {yR : Nat → Option FieldType} {mid : Nat} {M : Nat → Prop}
theorem ycbif {α : Type} {b : Bool} {x : Option α} {u : α} (h : (bif b then x else none) = some u) : b = true ∧ x = some u := by
  cases b with
  | true => exact ⟨rfl, h⟩
  | false => cases h
theorem ycthen_ge {mc ms : Nat} {r : Option ycL} {u : ycL} (h : ycthen mc ms r = some u) : mc ≤ u.2.2.1 ∧ ms ≤ u.2.2.2.1 := by
  obtain ⟨u2, -, rfl⟩ := ycthen_s h
  exact ⟨Nat.le_add_right _ _, Nat.le_add_right _ _⟩
theorem ycback_ge {run : ycRun} {pc ret : Nat} {lv : List (Nat × ycV)} {rest : List ycV} {known : Bool} {u u1 : ycL} (h : ycback T run mid pc lv rest ret known u1 = some u) : u1.2.2.1 ≤ u.2.2.1 ∧ u1.2.2.2.1 ≤ u.2.2.2.1 := by
  unfold ycback at h
  split at h
  · cases hq : Nat.beq ret 0 with
    | false => rw [hq] at h; cases h
    | true => rw [hq] at h; exact ycthen_ge h
  · cases hq : Nat.beq ret 0 with
    | true => rw [hq] at h; cases h
    | false => rw [hq] at h; exact ycthen_ge h
  · split at h
    · cases h
    · cases h
      exact ⟨Nat.le_refl _, Nat.le_refl _⟩
    · split at h
      · rename_i kk _
        cases hq : Nat.blt kk (ytMI T mid).2.1 with
        | false => rw [hq] at h; cases h
        | true => rw [hq] at h; exact ycthen_ge h
      · rename_i kk _
        cases hq : Nat.blt kk (ytMI T mid).2.1 with
        | false => rw [hq] at h; cases h
        | true => rw [hq] at h; exact ycthen_ge h
      · cases h
theorem yccall_f {run : ycRun} {i kind : Nat} {fr : ycF} {g : ycH} {u : ycL} (h : yccall T run mid i kind fr g = some u) : ∃ cm mode, ytMC T mid i = some (cm, mode) ∧
    ((mode = 6 ∧ kind = 2 ∧ ∃ x rest, fr.2.2 = (2, x) :: rest ∧ 1 ≤ (ytRM T mid).1 ∧ ycwide rest + 12 ≤ (ytRM T mid).2 ∧ run mid (fr.1 + 3, fr.2.1, rest) g = some u) ∨
     (mode = 5 ∧ ycmath T run mid cm kind fr g = some u) ∨
     (mode ≠ 6 ∧ ∃ (F rest : List ycV) (u1 : ycL), fr.2.2 = F.reverse ++ rest ∧ F.length = (ytMI T cm).1 ∧ ycwide F ≤ (ytMI T cm).2.1 ∧ ycwide rest ≤ 8 ∧ (ytRM T cm).1 + 1 ≤ (ytRM T mid).1 ∧ 8 + ((ytMI T cm).2.1 + 11) + (ytRM T cm).2 ≤ (ytRM T mid).2 ∧
        (bif Nat.beq kind 0 then Nat.beq mode 0 || Nat.beq mode 3 else bif Nat.beq kind 1 then Nat.beq mode 1 && ycrecv (ytMI T cm).2.2.2.2 g F else Nat.beq kind 2 && (Nat.beq mode 2 || Nat.beq mode 4) && ycrecv (g.1 (match F with | (_, a) :: _ => a.toNat | _ => 0)).1 g F) = true ∧
        run cm (0, ycargs 0 F, []) g = some u1 ∧ ycback T run mid fr.1 fr.2.1 rest (ytMI T cm).2.2.1 g.2.2 u1 = some u)) := by
  unfold yccall at h
  split at h
  · cases h
  · rename_i cm mode hMC
    refine ⟨cm, mode, hMC, ?_⟩
    cases h6 : Nat.beq mode 6 with
    | true =>
      rw [h6] at h
      refine Or.inl ⟨Nat.eq_of_beq_eq_true h6, ?_⟩
      rw [cond_true] at h
      split at h
      · rename_i x rest hst
        cases hq : Nat.ble 1 (ytRM T mid).1 && Nat.ble (ycwide rest + 12) (ytRM T mid).2 with
        | false => rw [hq] at h; cases h
        | true =>
          rw [hq] at h
          rw [Bool.and_eq_true] at hq
          exact ⟨rfl, _, rest, hst, Nat.ble_eq.mp hq.1, Nat.ble_eq.mp hq.2, h⟩
      · cases h
    | false =>
      rw [h6] at h
      rw [cond_false] at h
      cases h5 : Nat.beq mode 5 with
      | true =>
        rw [h5] at h
        exact Or.inr (Or.inl ⟨Nat.eq_of_beq_eq_true h5, h⟩)
      | false =>
      rw [h5, cond_false] at h
      refine Or.inr (Or.inr ⟨Nat.ne_of_beq_eq_false h6, ?_⟩)
      obtain ⟨hq, h⟩ := ycbif h
      rw [Bool.and_eq_true, Bool.and_eq_true, Bool.and_eq_true, Bool.and_eq_true, Bool.and_eq_true] at hq
      obtain ⟨q1, q2, q3, q4, q5, q6⟩ := hq
      split at h
      · cases h
      · rename_i u1 hu1
        refine ⟨(fr.2.2.take (ytMI T cm).1).reverse, fr.2.2.drop (ytMI T cm).1, u1, ?_, ?_, Nat.ble_eq.mp q2, Nat.ble_eq.mp q3, Nat.ble_eq.mp q4, Nat.ble_eq.mp q5, q6, hu1, h⟩
        · rw [List.reverse_reverse, List.take_append_drop]
        · rw [List.length_reverse]
          exact Nat.eq_of_beq_eq_true q1
theorem ycpar_s {y : MethodName} {n : Nat} (h : ycparn y = some n) : ∀ sig, parseMethodDescriptor y.desc = some sig → n = sig.parameters.length := by
  intro sig hs
  unfold ycparn at h
  rw [hs] at h
  exact (Option.some.inj h).symm
theorem ycrecv_s {ck : Nat} {g : ycH} {F : List ycV} (h : ycrecv ck g F = true) : ∃ a F2, F = (2, a) :: F2 ∧ a.toNat < g.2.1 ∧ (g.1 a.toNat).1 = ck := by
  unfold ycrecv at h
  split at h
  · rename_i a F2
    rw [Bool.and_eq_true] at h
    exact ⟨a, F2, rfl, Nat.ble_eq.mp h.1, Nat.eq_of_beq_eq_true h.2⟩
  · cases h
theorem ycstk {F2 rest : List ycV} {a : Int} : (((2, a) :: F2).reverse ++ rest).map (ycv ad oa) = (F2.map (ycv ad oa)).reverse ++ Value.ref (ad a.toNat) :: rest.map (ycv ad oa) := by
  rw [List.map_append, List.map_reverse, List.map_cons, List.reverse_cons, List.append_assoc]
  rfl
theorem ycwd_all (hok : ycok T Ts Ns sn cl yN yB yR M) {cm : Nat} (hm : ycMth T Ts Ns sn cl yN yB yR cm) (hts : ∀ w ∈ Ts, w.before args s = true) : ∀ w ∈ ycwd T Ts yN yB yR cm, ∀ (a' : Array Value) (U : State), s.WarmedH U.vm → w.before a' U = true := by
  intro w hw a' U hW
  have hin : w ∈ Ts := by
    rcases List.mem_cons.mp hw with h | h
    · rw [h]; exact ycwd_own hm
    · exact h
  exact ycgw_s (hok.1 w hin) hW (hts w hin)
set_option maxHeartbeats 1000000 in
theorem yccall_s {k i kind mc ms : Nat} {ins : Instr} {fr : ycF} {g : ycH} {u uu : ycL} (hok : ycok T Ts Ns sn cl yN yB yR M) (HK : ycHold l D cl tc ad oa Ns sn T Ts yN yB yR M k) (hcx : ycCx p l e R s m args meth c D cl tc ad oa Ns sn T Ts yN yB yR A mid) (hM : M mid) (hmc : mc ≤ R.cells) (hms : ms ≤ R.slots)
    (hins : (kind = 0 ∧ ins = .invokestatic i) ∨ (kind = 1 ∧ ins = .invokevirtual i) ∨ (kind = 2 ∧ ins = .invokespecial i)) (hdg : decode (yB mid) fr.1 = .ok (ins, 3))
    (h : yccall T (ycrun T k) mid i kind fr g = some u) (hu : yccore u uu) (hc : cells + u.2.2.1 = mc) (hs : slots + u.2.2.2.1 = ms) :
    ychold p l e R s m args below meth c (ycZ below D cl tc ad oa A args s mc ms uu) cl D A tc ad oa (ytMI T mid).2.1 cells slots fr g := by
  obtain ⟨w1, w2, w3, w4, w5, w6, ⟨w7a, w7b⟩, w8, w9, w10, w11⟩ := id hok
  obtain ⟨⟨m1, m2, m3, m4, m5, m6, m7, m8⟩, mX, mN, mA, mS, mC⟩ := w11 mid hM
  obtain ⟨x1, x2, x3, x4, x5, x6, x7, x8, x9, x10, x11, x12, x13, x14, x15, x16⟩ := id hcx
  obtain ⟨cm, mode, hMC, hcase⟩ := yccall_f h
  obtain ⟨C6, CM, C5, C0, C1, C2, C3, C4⟩ := mC i cm mode hMC
  rcases hcase with ⟨hmode, hkind, x, rest, hst, hf1, hl1, hrun⟩ | ⟨hmode, hmath⟩ | ⟨hmode, F, rest, u1, hst, hFl, hw1, hw2, hfr, hlo, hkm, hu1, hback⟩
  · rcases hins with ⟨hz, -⟩ | ⟨hz, -⟩ | ⟨hz, rfl⟩
    · omega
    · omega
    · have hgo := HK p e R s m args below meth c A mid hcx hM mc ms uu hmc hms _ g u cells slots hrun hu hc hs
      intro H locs ls hP hD hS hm hl
      rw [hst]
      have hls : ls.size = c.maxLocals := hl.1.trans x4.symm
      refine W.objInit x1 x3 x7 (x8 _ (C6 hmode)) (x8 _ w7a) (x8 _ w7b) (g := F0 m fr.1 ls (((2, x) :: rest).map (ycv ad oa))) rfl hls rfl hdg (Nat.le_trans hf1 x14) ?_ (hgo H locs ls hP hD hS hm hl)
      show 2 * 0 + ((rest.map (ycv ad oa)).map fun v => v.category).sum + 12 ≤ R.locals
      rw [yccats_s]
      omega
  · obtain ⟨d0, d1, d2, d3⟩ := C5 hmode
    unfold ycmath at hmath
    split at hmath
    · rename_i y x rest hst
      obtain ⟨hq, hrun⟩ := ycbif hmath
      rw [Bool.and_eq_true] at hq
      have q1 := Nat.ble_eq.mp hq.1
      have q2 := Nat.ble_eq.mp hq.2
      obtain ⟨e1, e2, e3⟩ := d1 rfl
      rcases hins with ⟨hz, rfl⟩ | ⟨hz, -⟩ | ⟨hz, -⟩
      · have hgo := HK p e R s m args below meth c A mid hcx hM mc ms uu hmc hms _ g u cells slots hrun hu hc hs
        intro H locs ls hP hD hS hm hl
        have h1 := hgo H locs ls hP hD hS hm hl
        rw [hst]
        refine va_mmax x1 x3 (x4.trans hl.1.symm) x7 (x8 _ e1) (x8 _ e2) (x8 _ d0) (x8 _ e3) (Nat.le_trans q1 x14) (by rw [yccats_s]; omega) (by omega) (by omega) hdg ?_
        have ev : Value.int (if Int32.ofInt x < Int32.ofInt y then Int32.ofInt y else Int32.ofInt x) = ycv ad oa (0, bif decide (y32 x < y32 y) then y else x) := by
          by_cases h : y32 x < y32 y
          · rw [if_pos (Int32.lt_iff_toInt_lt.mpr h), decide_eq_true h]; rfl
          · rw [if_neg (fun z => h (Int32.lt_iff_toInt_lt.mp z)), decide_eq_false h]; rfl
        rw [ev]
        exact h1
      · omega
      · omega
    · rename_i y x rest hst
      obtain ⟨hq, hrun⟩ := ycbif hmath
      rw [Bool.and_eq_true] at hq
      have q1 := Nat.ble_eq.mp hq.1
      have q2 := Nat.ble_eq.mp hq.2
      obtain ⟨e1, e2, e3⟩ := d2 rfl
      rcases hins with ⟨hz, rfl⟩ | ⟨hz, -⟩ | ⟨hz, -⟩
      · have hgo := HK p e R s m args below meth c A mid hcx hM mc ms uu hmc hms _ g u cells slots hrun hu hc hs
        intro H locs ls hP hD hS hm hl
        have h1 := hgo H locs ls hP hD hS hm hl
        rw [hst]
        refine va_mmin x1 x3 (x4.trans hl.1.symm) x7 (x8 _ e1) (x8 _ e2) (x8 _ d0) (x8 _ e3) (Nat.le_trans q1 x14) (by rw [yccats_s]; omega) (by omega) (by omega) hdg ?_
        have ev : Value.int (if Int32.ofInt y < Int32.ofInt x then Int32.ofInt y else Int32.ofInt x) = ycv ad oa (0, bif decide (y32 y < y32 x) then y else x) := by
          by_cases h : y32 y < y32 x
          · rw [if_pos (Int32.lt_iff_toInt_lt.mpr h), decide_eq_true h]; rfl
          · rw [if_neg (fun z => h (Int32.lt_iff_toInt_lt.mp z)), decide_eq_false h]; rfl
        rw [ev]
        exact h1
      · omega
      · omega
    · rename_i x rest hst
      obtain ⟨hq, hrun⟩ := ycbif hmath
      rw [Bool.and_eq_true] at hq
      have q1 := Nat.ble_eq.mp hq.1
      have q2 := Nat.ble_eq.mp hq.2
      obtain ⟨e1, e2, e3⟩ := d3 rfl
      rcases hins with ⟨hz, rfl⟩ | ⟨hz, -⟩ | ⟨hz, -⟩
      · have hgo := HK p e R s m args below meth c A mid hcx hM mc ms uu hmc hms _ g u cells slots hrun hu hc hs
        intro H locs ls hP hD hS hm hl
        have h1 := hgo H locs ls hP hD hS hm hl
        rw [hst]
        refine va_mabs x1 x3 (x4.trans hl.1.symm) x7 (x8 _ e1) (x8 _ e2) (x8 _ d0) (x8 _ e3) (Nat.le_trans q1 x14) (by rw [yccats_s]; omega) (by omega) (by omega) hdg ?_
        have ev : Value.int (if 0 ≤ Int32.ofInt x then Int32.ofInt x else 0 - Int32.ofInt x) = ycv ad oa (0, bif decide (0 ≤ y32 x) then x else y32 (0 - x)) := by
          have hz0 : (0 ≤ Int32.ofInt x) ↔ 0 ≤ y32 x := Int32.le_iff_toInt_le (x := 0) (y := Int32.ofInt x)
          by_cases h : 0 ≤ y32 x
          · rw [if_pos (hz0.mpr h), decide_eq_true h]; rfl
          · rw [if_neg (fun z => h (hz0.mp z)), decide_eq_false h]
            show Value.int (Int32.ofInt 0 - Int32.ofInt x) = Value.int (Int32.ofInt (y32 (0 - x)))
            rw [yc_sub]
        rw [ev]
        exact h1
      · omega
      · omega
    · cases hmath
  · have hMcm := CM hmode
    obtain ⟨hmth, -⟩ := w11 cm hMcm
    obtain ⟨n1, n2, n3, n4, n5, n6, n7, n8⟩ := id hmth
    have hall := ycwd_all (args := args) (s := s) hok hmth x8
    have hge := ycback_ge hback
    have hf : cells + u1.2.2.1 ≤ R.cells ∧ slots + u1.2.2.2.1 ≤ R.slots := by omega
    have hfr9 : (ytRM T cm).1 + 1 ≤ R.frames := Nat.le_trans hfr x14
    have hlo9 : 8 + ((ytMI T cm).2.1 + 11) + (ytRM T cm).2 ≤ R.locals := Nat.le_trans hlo x15
    have hroom : ((rest.map (ycv ad oa)).map fun v => v.category).sum ≤ 8 := by rw [yccats_s]; exact hw2
    have hown : (bif (ytHD T cm).isEmpty then Cond.code (yN cm) (yB cm) (ytMI T cm).2.1 (yR cm) else Cond.codeWith (yN cm) (yB cm) (ytMI T cm).2.1 (yR cm) (ytHD T cm)) ∈ ycwd T Ts yN yB yR cm := List.mem_cons_self
    have hownT := ycwd_own hmth
    intro H locs ls hP hD hS hm hl T9 hT X
    have hsz : g.2.2 = true → H.size = s.heap.size + cells := fun z => ycsz X hT ⟨rfl, (hm z).2⟩
    have hm0 : g.2.2 = true → ad g.2.1 = H.size := fun z => by rw [hsz z]; exact (hm z).1
    have hmet := ycMet_of (sz := H.size) hok HK hMcm x2 x16 hu1 hw1
    have hpre := yc_pre (Ns := Ns) (sn := sn) (old := ytOL T) (av := F.map (ycv ad oa)) hP hD hS x11 x10 hm0 x12
    have hfix : CallFix p m c (yB mid) (ytMI T mid).2.1 s args Ts (yN mid).cls := ⟨x1, x3, x4, x7, x8⟩
    have hlen : (F.map (ycv ad oa)).length = (ytMI T cm).1 := by rw [List.length_map]; exact hFl
    have hfin : ∀ {a : Array Value}, vx_Run p l e R s m args below meth c H locs cells slots u1.2.2.1 u1.2.2.2.1 (F0 m fr.1 ls (fr.2.2.map (ycv ad oa))) (rest.map (ycv ad oa)) (ycQc D cl tc ad oa (va_A (ycws ad oa tc g.1 g.2.1) H.size) (H.size + u1.2.2.1) u1 a) (ycXC D cl tc ad oa (va_A (ycws ad oa tc g.1 g.2.1) H.size) (H.size + u1.2.2.1) u1) (va_A (ycws ad oa tc g.1 g.2.1) H.size) → ∃ t, Steps p.tables e below (T9.setTop (F0 m fr.1 ls (fr.2.2.map (ycv ad oa)))) t ∧ ycZ below D cl tc ad oa A args s mc ms uu t :=
      fun hr => ycback_s hok HK hcx hM hmc hms hback hu hc hs hD hS hsz hl hr T9 hT X
    rcases hins with ⟨hz, rfl⟩ | ⟨hz, rfl⟩ | ⟨hz, rfl⟩
    · subst hz
      change (Nat.beq mode 0 || Nat.beq mode 3) = true at hkm
      rw [Bool.or_eq_true] at hkm
      have hstk : fr.2.2.map (ycv ad oa) = (F.map (ycv ad oa)).reverse ++ rest.map (ycv ad oa) := by rw [hst, List.map_append, List.map_reverse]
      rcases hkm with hkm | hkm
      · obtain ⟨d1, d2, d3⟩ := C0 (Nat.eq_of_beq_eq_true hkm)
        cases hE : (ytHD T cm).isEmpty with
        | true =>
          rw [hE] at hown hownT
          exact hfin (vx_runS hfix hmet ⟨⟨rfl, rfl, hfr9, hlo9, hall, hown, x8 _ hownT, x8 _ n3, n2, ycpar_s d3, x8 _ d1⟩, x8 _ d2⟩ ⟨ycPw_blind, hpre⟩ rfl hlen hl.1 hstk (lv_room hroom) hdg hf)
        | false =>
          rw [hE] at hown hownT
          exact hfin (vx_runSX hfix hmet ⟨⟨rfl, rfl, hfr9, hlo9, hall, hown⟩, x8 _ hownT, x8 _ n3, n2, ycpar_s d3, x8 _ d1, x8 _ d2⟩ ⟨ycPw_blind, hpre⟩ rfl hlen hl.1 hstk (lv_room hroom) hdg hf)
      · obtain ⟨d1, d2, d3, d4⟩ := C3 (Nat.eq_of_beq_eq_true hkm)
        rw [d4] at hown hownT
        exact hfin (vx_runSN hfix hmet ⟨⟨⟨rfl, rfl, hfr9, hlo9, hall, hown⟩, x8 _ hownT, x8 _ n3, n2, ycpar_s d3, x8 _ d1⟩, x8 _ d2, trivial⟩ ⟨ycPw_blind, hpre⟩ rfl hlen hl.1 hstk (lv_room hroom) hdg hf)
    · subst hz
      change (Nat.beq mode 1 && ycrecv (ytMI T cm).2.2.2.2 g F) = true at hkm
      rw [Bool.and_eq_true] at hkm
      obtain ⟨d1, d2, d3, ⟨n, d4, d5⟩, ⟨FF, NN, d6, d7⟩⟩ := C1 (Nat.eq_of_beq_eq_true hkm.1)
      obtain ⟨a, F2, rfl, ha, hck⟩ := ycrecv_s hkm.2
      have hstk : fr.2.2.map (ycv ad oa) = (F2.map (ycv ad oa)).reverse ++ Value.ref (ad a.toNat) :: rest.map (ycv ad oa) := by rw [hst, ycstk]
      have hlen2 : (F2.map (ycv ad oa)).length = n := by
        rw [List.length_map]
        rw [List.length_cons] at hFl
        omega
      have hrec : ∃ cellB : Cell, H[ad a.toNat]? = some cellB ∧ cellB.vm.isStatics = false ∧ s.vm.findClass (yN cm).cls = some cellB.cls := by
        generalize hx : g.1 a.toNat = xx at hck
        obtain ⟨x1', x2', x3'⟩ := xx
        change x1' = _ at hck
        subst hck
        exact va_recv x10 hP d6 (ycws_obj (ad := ad) (oa := oa) (tc := tc) hx ha d7)
      cases hE : (ytHD T cm).isEmpty with
      | true =>
        rw [hE] at hown hownT
        exact hfin (vx_runV hfix hmet ⟨⟨rfl, rfl, hfr9, hlo9, hall, hown, x8 _ hownT, x8 _ n3, n2, ycpar_s d4, x8 _ d1⟩, x8 _ d2, x8 _ d3⟩ ⟨ycPw_blind, hrec, hpre⟩ rfl hlen2 hl.1 hstk (lv_room hroom) hdg hf)
      | false =>
        rw [hE] at hown hownT
        exact hfin (vx_runVX hfix hmet ⟨⟨rfl, rfl, hfr9, hlo9, hall, hown⟩, x8 _ hownT, x8 _ n3, n2, ycpar_s d4, x8 _ d1, x8 _ d2, x8 _ d3⟩ ⟨ycPw_blind, hrec, hpre⟩ rfl hlen2 hl.1 hstk (lv_room hroom) hdg hf)
    · subst hz
      change ((Nat.beq mode 2 || Nat.beq mode 4) && ycrecv _ g F) = true at hkm
      rw [Bool.and_eq_true, Bool.or_eq_true] at hkm
      obtain ⟨a, F2, rfl, ha, hck⟩ := ycrecv_s hkm.2
      have hstk : fr.2.2.map (ycv ad oa) = (F2.map (ycv ad oa)).reverse ++ Value.ref (ad a.toNat) :: rest.map (ycv ad oa) := by rw [hst, ycstk]
      rcases hkm.1 with hkm | hkm
      · obtain ⟨d1, d2, d3, ⟨n, d4, d5⟩, d6, d7⟩ := C2 (Nat.eq_of_beq_eq_true hkm)
        have hlen2 : (F2.map (ycv ad oa)).length = n := by
          rw [List.length_map]
          rw [List.length_cons] at hFl
          omega
        have hR0 : yR cm = none := by
          have h9 := n5
          rw [d7] at h9
          exact h9
        rw [d6] at hown hownT
        rw [hR0] at hown hownT
        exact hfin (vx_runI hfix hmet ⟨⟨rfl, rfl, hfr9, hlo9, hall, hown, x8 _ hownT, x8 _ n3, n2, ycpar_s d4, x8 _ d1⟩, d3, x8 _ d2⟩ ⟨ycPw_blind, hpre⟩ rfl hlen2 hl.1 hstk (lv_room hroom) hdg hf)
      · obtain ⟨d1, d2, d3, ⟨n, d4, d5⟩, d6, d7⟩ := C4 (Nat.eq_of_beq_eq_true hkm)
        have hlen2 : (F2.map (ycv ad oa)).length = n := by
          rw [List.length_map]
          rw [List.length_cons] at hFl
          omega
        have hR0 : yR cm = none := by
          have h9 := n5
          rw [d7] at h9
          exact h9
        rw [d6] at hown hownT
        rw [hR0] at hown hownT
        exact hfin (vx_runIN hfix hmet ⟨⟨⟨rfl, rfl, hfr9, hlo9, hall, hown⟩, x8 _ hownT, x8 _ n3, n2, ycpar_s d4, x8 _ d1⟩, d3, x8 _ d2⟩ ⟨ycPw_blind, hpre⟩ rfl hlen2 hl.1 hstk (lv_room hroom) hdg hf)
end YC14
