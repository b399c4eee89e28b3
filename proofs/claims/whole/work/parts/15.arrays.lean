section XJ6
variable {p : Program} {l : Launch} {e : Env} {R : Room} {s : State} {m : MethodId} {args : Array Value} {below : List Frame} {meth : Method} {c : Code} {Q : State → Prop} {cl : List vw_C} {D : va_G} {A : Nat → Prop} {tc : Nat → ClassId} {ad : Nat → Nat} {r : Nat → Int32 × Int64} {nL cells slots : Nat}
variable {cc : ByteArray} {pc len : Nat} {lv : List (Nat × xjV)} {st : List xjV} {g : xjG} {L : List (xjFr × xjG)}
abbrev xjtys (tc : Nat → ClassId) : List (ClassId × FieldType) := [(tc 14, .int), (tc 15, .long), (tc 16, .boolean), (tc 17, .object "PictureCodingHouse$ByteRow"), (tc 18, .object "PictureCodingHouse$Grid"), (tc 19, .array .int), (tc 20, .array .long)]
theorem xjix {i : Int} {j : Nat} (h : xjw i = Int.ofNat j) : Int32.ofInt i = nI j ∧ j < 2147483648 := by
  have h1 := xjw_t i
  rw [h] at h1
  have h2 := Int32.toInt_lt (Int32.ofInt i)
  rw [h1] at h2
  have h3 : j < 2147483648 := by
    have : (j : Int) < 2147483648 := h2
    omega
  refine ⟨?_, h3⟩
  apply Int32.toInt_inj.mp
  rw [h1, nI_toInt h3]
  rfl
theorem xjelem_s {k kind : Nat} {i : Int} {v : xjV} (h : xjelem k kind i g = some v) : ∃ (n : Nat) (t : xjT xjV), xjget 10 g.2.1 k = (kind, n, t) ∧ k < g.2.2.1 ∧ n ≤ 32768 ∧ ∃ j : Nat, j < n ∧ Int32.ofInt i = nI j ∧ v = xjget 15 t j := by
  unfold xjelem at h
  split at h
  rename_i c n t hc
  cases hb : Nat.blt k g.2.2.1 && Nat.beq c kind && Nat.ble n 32768 with
  | false => rw [hb] at h; cases h
  | true =>
    rw [hb] at h
    rw [Bool.and_eq_true, Bool.and_eq_true] at hb
    change (match xjw i with | .ofNat j => bif Nat.blt j n then some (xjget 15 t j) else none | _ => none) = some v at h
    split at h
    · rename_i j hj
      cases hb2 : Nat.blt j n with
      | false => rw [hb2] at h; cases h
      | true =>
        rw [hb2] at h
        have e1 := Nat.eq_of_beq_eq_true hb.1.2
        refine ⟨n, t, by rw [hc, e1], Nat.ble_eq.mp hb.1.1, Nat.ble_eq.mp hb.2, j, Nat.ble_eq.mp hb2, (xjix hj).1, (Option.some.inj h).symm⟩
    · cases h
theorem xjput_s {k kind : Nat} {i : Int} {v : xjV} {g2 : xjG} (h : xjput k kind i v g = some g2) : ∃ (n : Nat) (t : xjT xjV), xjget 10 g.2.1 k = (kind, n, t) ∧ k < g.2.2.1 ∧ n ≤ 32768 ∧ ∃ j : Nat, j < n ∧ Int32.ofInt i = nI j ∧ g2 = (g.1, xjset 10 g.2.1 k (kind, n, xjset 15 t j v), g.2.2) := by
  unfold xjput at h
  split at h
  rename_i c n t hc
  cases hb : Nat.blt k g.2.2.1 && Nat.beq c kind && Nat.ble n 32768 with
  | false => rw [hb] at h; cases h
  | true =>
    rw [hb] at h
    rw [Bool.and_eq_true, Bool.and_eq_true] at hb
    change (match xjw i with | .ofNat j => bif Nat.blt j n then some (g.1, xjset 10 g.2.1 k (c, n, xjset 15 t j v), g.2.2) else none | _ => none) = some g2 at h
    split at h
    · rename_i j hj
      cases hb2 : Nat.blt j n with
      | false => rw [hb2] at h; cases h
      | true =>
        rw [hb2] at h
        have e1 := Nat.eq_of_beq_eq_true hb.1.2
        refine ⟨n, t, by rw [hc, e1], Nat.ble_eq.mp hb.1.1, Nat.ble_eq.mp hb.2, j, Nat.ble_eq.mp hb2, (xjix hj).1, ?_⟩
        rw [← e1]
        exact (Option.some.inj h).symm
    · cases h
theorem xjws_arr {k kind n : Nat} {t : xjT xjV} (h : xjget 10 g.2.1 k = (kind, n, t)) (hk : k < g.2.2.1) (h14 : 14 ≤ kind) : (xjws r ad tc g.2.1 g.2.2.1)[k]? = some (ad k, .inl (tc kind, n, xjrow r ad kind t)) := by
  rw [xjws_at hk, h, xjte_arr h14]
theorem xjws_arr_set {k kind n : Nat} {t2 : xjT xjV} (hk : k < g.2.2.1) (hn : g.2.2.1 ≤ 1024) (h14 : 14 ≤ kind) : (xjws r ad tc g.2.1 g.2.2.1).set k (ad k, .inl (tc kind, n, xjrow r ad kind t2)) = xjws r ad tc (xjset 10 g.2.1 k (kind, n, t2)) g.2.2.1 := by
  rw [← xjws_set hk hn, xjte_arr h14]

/-- an element of an array, put on the stack -/
noncomputable def xjald (kind : Nat) (pc : Nat) (lv : List (Nat × xjV)) (st : List xjV) (g : xjG) : xjR := match st with
  | (0, .num i) :: (2, .num a) :: t => (match xjelem a.toNat kind i g with
    | some v => bif Nat.beq kind 14 || Nat.beq kind 16 then xjgo (pc + 1) lv ((0, xjnorm g.1 v.2) :: t) g
      else bif Nat.beq kind 15 then xjgo (pc + 1) lv ((1, v.2) :: t) g
      else bif Nat.ble 2 v.1 then xjgo (pc + 1) lv (v :: t) g else none
    | none => none)
  | (0, x) :: (2, .num a) :: t => xjsplit pc lv x (fun y => (0, y) :: (2, .num a) :: t) g
  | _ => none
noncomputable def xjast (kind : Nat) (pc : Nat) (lv : List (Nat × xjV)) (st : List xjV) (g : xjG) : xjR := match st with
  | (k, v) :: (0, .num i) :: (2, .num a) :: t => bif (bif Nat.beq kind 15 then Nat.beq k 1 else Nat.beq k 0) && (bif Nat.beq kind 16 then xjeq v (.num 0) || xjeq v (.num 1) else true) then
      (match xjput a.toNat kind i (k, v) g with
      | some g2 => xjgo (pc + 1) lv t g2
      | none => none) else none
  | v :: (0, x) :: (2, .num a) :: t => xjsplit pc lv x (fun y => v :: (0, y) :: (2, .num a) :: t) g
  | _ => none

theorem xjiald_s (hexec : p.tables.exec = Jvm.exec) (hb : c.code = cc) (hK : va_K D cl (xjtys tc) s) (hdg : decode cc pc = .ok (.iaload, 1)) (hk : xjnext p l e R s m args below meth c Q cl D A tc ad r nL cells slots L) (hF : xjH r g.1) (h : xjald 14 pc lv st g = some L) : xjhold p l e R s m args below meth c Q cl D A tc ad r nL cells slots (pc, lv, st) g := by
  unfold xjald at h
  split at h
  · rename_i i a t
    split at h
    · rename_i v hv
      obtain ⟨n, tr, hc, hkk, hn3, j, hj, hij, hvj⟩ := xjelem_s hv
      have := xjgo_s hk hF h
      intro H locs ls hP hD hS hm hn hl
      have h1 := this H locs ls hP hD hS hm hn hl
      have ha := xjws_arr (r := r) (ad := ad) (tc := tc) hc hkk (by decide)
      rw [xjrow_i (Or.inl rfl)] at ha
      show W p l e R s m args below meth c H locs _ _ Q (F0 m pc ls (Value.int (Int32.ofInt i) :: Value.ref (ad a.toNat) :: t.map (xjcv r ad)))
      rw [hij]
      refine va_iald hexec hb hK hP a.toNat 0 ha rfl (vp_in_nI hj (by omega)) hdg ?_
      rw [nI_clamp (by omega)]
      show W p l e R s m args below meth c H locs _ _ Q (F0 m (pc + 1) ls (Value.int (if j < 32768 then (xjdn r (xjget 15 tr j).2).1 else 0) :: t.map (xjcv r ad)))
      rw [if_pos (by omega), ← hvj, ← xjnorm_s hF]
      exact h1
    · cases h
  · rename_i x a t _
    exact xjsplit_s (mk := fun y => (0, y) :: (2, .num a) :: t) (fun y z hyz => by simp only [List.map_cons, xjcv, hyz]) hk hF h
  · cases h
theorem xjzald_s (hexec : p.tables.exec = Jvm.exec) (hb : c.code = cc) (hK : va_K D cl (xjtys tc) s) (hdg : decode cc pc = .ok (.baload, 1)) (hk : xjnext p l e R s m args below meth c Q cl D A tc ad r nL cells slots L) (hF : xjH r g.1) (h : xjald 16 pc lv st g = some L) : xjhold p l e R s m args below meth c Q cl D A tc ad r nL cells slots (pc, lv, st) g := by
  unfold xjald at h
  split at h
  · rename_i i a t
    split at h
    · rename_i v hv
      obtain ⟨n, tr, hc, hkk, hn3, j, hj, hij, hvj⟩ := xjelem_s hv
      have := xjgo_s hk hF h
      intro H locs ls hP hD hS hm hn hl
      have h1 := this H locs ls hP hD hS hm hn hl
      have ha := xjws_arr (r := r) (ad := ad) (tc := tc) hc hkk (by decide)
      rw [xjrow_i (Or.inr rfl)] at ha
      show W p l e R s m args below meth c H locs _ _ Q (F0 m pc ls (Value.int (Int32.ofInt i) :: Value.ref (ad a.toNat) :: t.map (xjcv r ad)))
      rw [hij]
      refine va_zald hexec hb hK hP a.toNat 2 ha rfl (vp_in_nI hj (by omega)) hdg ?_
      rw [nI_clamp (by omega)]
      show W p l e R s m args below meth c H locs _ _ Q (F0 m (pc + 1) ls (Value.int (if j < 32768 then (xjdn r (xjget 15 tr j).2).1 else 0) :: t.map (xjcv r ad)))
      rw [if_pos (by omega), ← hvj, ← xjnorm_s hF]
      exact h1
    · cases h
  · rename_i x a t _
    exact xjsplit_s (mk := fun y => (0, y) :: (2, .num a) :: t) (fun y z hyz => by simp only [List.map_cons, xjcv, hyz]) hk hF h
  · cases h
theorem xjlald_s (hexec : p.tables.exec = Jvm.exec) (hb : c.code = cc) (hK : va_K D cl (xjtys tc) s) (hdg : decode cc pc = .ok (.laload, 1)) (hk : xjnext p l e R s m args below meth c Q cl D A tc ad r nL cells slots L) (hF : xjH r g.1) (h : xjald 15 pc lv st g = some L) : xjhold p l e R s m args below meth c Q cl D A tc ad r nL cells slots (pc, lv, st) g := by
  unfold xjald at h
  split at h
  · rename_i i a t
    split at h
    · rename_i v hv
      obtain ⟨n, tr, hc, hkk, hn3, j, hj, hij, hvj⟩ := xjelem_s hv
      have := xjgo_s hk hF h
      intro H locs ls hP hD hS hm hn hl
      have h1 := this H locs ls hP hD hS hm hn hl
      have ha := xjws_arr (r := r) (ad := ad) (tc := tc) hc hkk (by decide)
      rw [xjrow_l] at ha
      show W p l e R s m args below meth c H locs _ _ Q (F0 m pc ls (Value.int (Int32.ofInt i) :: Value.ref (ad a.toNat) :: t.map (xjcv r ad)))
      rw [hij]
      refine va_lald hexec hb hK hP a.toNat 1 ha rfl (vp_in_nI hj (by omega)) hdg ?_
      rw [nI_clamp (by omega)]
      show W p l e R s m args below meth c H locs _ _ Q (F0 m (pc + 1) ls (Value.long (if j < 32768 then (xjdn r (xjget 15 tr j).2).2 else 0) :: t.map (xjcv r ad)))
      rw [if_pos (by omega), ← hvj]
      exact h1
    · cases h
  · rename_i x a t _
    exact xjsplit_s (mk := fun y => (0, y) :: (2, .num a) :: t) (fun y z hyz => by simp only [List.map_cons, xjcv, hyz]) hk hF h
  · cases h
theorem xjiast_s (hexec : p.tables.exec = Jvm.exec) (hb : c.code = cc) (hK : va_K D cl (xjtys tc) s) (hdg : decode cc pc = .ok (.iastore, 1)) (hk : xjnext p l e R s m args below meth c Q cl D A tc ad r nL cells slots L) (hF : xjH r g.1) (h : xjast 14 pc lv st g = some L) : xjhold p l e R s m args below meth c Q cl D A tc ad r nL cells slots (pc, lv, st) g := by
  unfold xjast at h
  split at h
  · rename_i k v i a t
    cases hq : (bif Nat.beq 14 15 then Nat.beq k 1 else Nat.beq k 0) && (bif Nat.beq 14 16 then xjeq v (.num 0) || xjeq v (.num 1) else true) with
    | false => rw [hq] at h; cases h
    | true =>
      rw [hq] at h
      rw [Bool.and_eq_true] at hq
      have hk0 : k = 0 := Nat.eq_of_beq_eq_true hq.1
      subst hk0
      change (match xjput a.toNat 14 i (0, v) g with | some g2 => xjgo (pc + 1) lv t g2 | none => none) = some L at h
      split at h
      · rename_i g2 hg2
        obtain ⟨n, tr, hc, hkk, hn3, j, hj, hij, hg2e⟩ := xjput_s hg2
        subst hg2e
        have hgo := xjgo_s (g := (g.1, xjset 10 g.2.1 a.toNat (14, n, xjset 15 tr j (0, v)), g.2.2)) hk hF h
        intro H locs ls hP hD hS hm hn hl
        have ha := xjws_arr (r := r) (ad := ad) (tc := tc) hc hkk (by decide)
        rw [xjrow_i (Or.inl rfl)] at ha
        show W p l e R s m args below meth c H locs _ _ Q (F0 m pc ls (Value.int (xjdn r v).1 :: Value.int (Int32.ofInt i) :: Value.ref (ad a.toNat) :: t.map (xjcv r ad)))
        rw [hij]
        have hin : vp_in (nI j) n := vp_in_nI hj (by omega)
        refine W.iast hexec hb (hP a.toNat _ ha) ((hK.2 0 _ rfl).1 n (fun j => .int ((fun q => if q < 32768 then (xjdn r (xjget 15 tr q).2).1 else 0) j))) (fun q => by cases q) (by show ¬ (nI j < 0 ∨ (arrV _ _ _).slots.size ≤ _); rw [arrV_size]; exact hin) rfl rfl hdg fun H1 e z oq => ?_
        have es : (xjws r ad tc g.2.1 g.2.2.1).set a.toNat (ad a.toNat, .inl (tc 14, n, xjrow r ad 14 (xjset 15 tr j (0, v)))) = xjws r ad tc (xjset 10 g.2.1 a.toNat (14, n, xjset 15 tr j (0, v))) g.2.2.1 := xjws_arr_set hkk hn (by decide)
        have hat : va_at D cl (ad a.toNat, .inl (tc 14, n, xjrow r ad 14 (xjset 15 tr j (0, v)))) H1 := by
          show H1[ad a.toNat]? = some (vp_cell _ _)
          rw [e, xjrow_i (Or.inl rfl), vp_cell_i, vp_cell_i, arrV_store, nI_clamp (by omega)]
          congr 2
          funext q
          by_cases h9 : q < 32768
          · rw [if_pos h9, xjget_set _ 15 tr j q (by omega) h9]
            by_cases h8 : q = j
            · subst h8
              simp [updV]
            · simp [updV, h8, h9]
          · have h8 : ¬ q = j := by omega
            simp [updV, h8, h9]
        have hP1 := hP.set hD ha hat oq
        have hD1 := hD.set (e := .inl (tc 14, n, xjrow r ad 14 (xjset 15 tr j (0, v)))) ha
        rw [es] at hP1 hD1
        exact hgo H1 _ ls hP1 hD1 (hS.put z oq (hD.2 a.toNat _ ha)) hm hn hl
      · cases h
  · rename_i v x a t _
    exact xjsplit_s (mk := fun y => v :: (0, y) :: (2, .num a) :: t) (fun y z hyz => by simp only [List.map_cons, xjcv, hyz]) hk hF h
  · cases h
theorem xjzast_s (hexec : p.tables.exec = Jvm.exec) (hb : c.code = cc) (hK : va_K D cl (xjtys tc) s) (hdg : decode cc pc = .ok (.bastore, 1)) (hk : xjnext p l e R s m args below meth c Q cl D A tc ad r nL cells slots L) (hF : xjH r g.1) (h : xjast 16 pc lv st g = some L) : xjhold p l e R s m args below meth c Q cl D A tc ad r nL cells slots (pc, lv, st) g := by
  unfold xjast at h
  split at h
  · rename_i k v i a t
    cases hq : (bif Nat.beq 16 15 then Nat.beq k 1 else Nat.beq k 0) && (bif Nat.beq 16 16 then xjeq v (.num 0) || xjeq v (.num 1) else true) with
    | false => rw [hq] at h; cases h
    | true =>
      rw [hq] at h
      rw [Bool.and_eq_true] at hq
      have hk0 : k = 0 := Nat.eq_of_beq_eq_true hq.1
      subst hk0
      change (match xjput a.toNat 16 i (0, v) g with | some g2 => xjgo (pc + 1) lv t g2 | none => none) = some L at h
      split at h
      · rename_i g2 hg2
        obtain ⟨n, tr, hc, hkk, hn3, j, hj, hij, hg2e⟩ := xjput_s hg2
        subst hg2e
        have hgo := xjgo_s (g := (g.1, xjset 10 g.2.1 a.toNat (16, n, xjset 15 tr j (0, v)), g.2.2)) hk hF h
        intro H locs ls hP hD hS hm hn hl
        have ha := xjws_arr (r := r) (ad := ad) (tc := tc) hc hkk (by decide)
        rw [xjrow_i (Or.inr rfl)] at ha
        show W p l e R s m args below meth c H locs _ _ Q (F0 m pc ls (Value.int (xjdn r v).1 :: Value.int (Int32.ofInt i) :: Value.ref (ad a.toNat) :: t.map (xjcv r ad)))
        rw [hij]
        have hin : vp_in (nI j) n := vp_in_nI hj (by omega)
        refine W.zast hexec hb (hP a.toNat _ ha) ((hK.2 2 _ rfl).1 n (fun j => .int ((fun q => if q < 32768 then (xjdn r (xjget 15 tr q).2).1 else 0) j))) (fun q => by cases q) (by show ¬ (nI j < 0 ∨ (arrV _ _ _).slots.size ≤ _); rw [arrV_size]; exact hin) rfl rfl hdg fun H1 e z oq => ?_
        have es : (xjws r ad tc g.2.1 g.2.2.1).set a.toNat (ad a.toNat, .inl (tc 16, n, xjrow r ad 16 (xjset 15 tr j (0, v)))) = xjws r ad tc (xjset 10 g.2.1 a.toNat (16, n, xjset 15 tr j (0, v))) g.2.2.1 := xjws_arr_set hkk hn (by decide)
        have hat : va_at D cl (ad a.toNat, .inl (tc 16, n, xjrow r ad 16 (xjset 15 tr j (0, v)))) H1 := by
          show H1[ad a.toNat]? = some (vp_cell _ _)
          rw [e, xjrow_i (Or.inr rfl), vp_cell_i, vp_cell_i, arrV_store, nI_clamp (by omega)]
          congr 2
          funext q
          have hx2 : narrow .boolean (Value.int (xjdn r v).1) = Value.int (xjdn r v).1 := by
            have h7 := hq.2
            change (xjeq v (.num 0) || xjeq v (.num 1)) = true at h7
            rw [Bool.or_eq_true] at h7
            rcases h7 with h7 | h7
            · rw [xjeq_s h7]; show narrow .boolean (.int (Int32.ofInt 0)) = .int (Int32.ofInt 0); decide
            · rw [xjeq_s h7]; show narrow .boolean (.int (Int32.ofInt 1)) = .int (Int32.ofInt 1); decide
          by_cases h9 : q < 32768
          · rw [if_pos h9, xjget_set _ 15 tr j q (by omega) h9]
            by_cases h8 : q = j
            · subst h8
              simp [updV, hx2]
            · simp [updV, h8, h9]
          · have h8 : ¬ q = j := by omega
            simp [updV, h8, h9]
        have hP1 := hP.set hD ha hat oq
        have hD1 := hD.set (e := .inl (tc 16, n, xjrow r ad 16 (xjset 15 tr j (0, v)))) ha
        rw [es] at hP1 hD1
        exact hgo H1 _ ls hP1 hD1 (hS.put z oq (hD.2 a.toNat _ ha)) hm hn hl
      · cases h
  · rename_i v x a t _
    exact xjsplit_s (mk := fun y => v :: (0, y) :: (2, .num a) :: t) (fun y z hyz => by simp only [List.map_cons, xjcv, hyz]) hk hF h
  · cases h
theorem xjlast_s (hexec : p.tables.exec = Jvm.exec) (hb : c.code = cc) (hK : va_K D cl (xjtys tc) s) (hdg : decode cc pc = .ok (.lastore, 1)) (hk : xjnext p l e R s m args below meth c Q cl D A tc ad r nL cells slots L) (hF : xjH r g.1) (h : xjast 15 pc lv st g = some L) : xjhold p l e R s m args below meth c Q cl D A tc ad r nL cells slots (pc, lv, st) g := by
  unfold xjast at h
  split at h
  · rename_i k v i a t
    cases hq : (bif Nat.beq 15 15 then Nat.beq k 1 else Nat.beq k 0) && (bif Nat.beq 15 16 then xjeq v (.num 0) || xjeq v (.num 1) else true) with
    | false => rw [hq] at h; cases h
    | true =>
      rw [hq] at h
      rw [Bool.and_eq_true] at hq
      have hk0 : k = 1 := Nat.eq_of_beq_eq_true hq.1
      subst hk0
      change (match xjput a.toNat 15 i (1, v) g with | some g2 => xjgo (pc + 1) lv t g2 | none => none) = some L at h
      split at h
      · rename_i g2 hg2
        obtain ⟨n, tr, hc, hkk, hn3, j, hj, hij, hg2e⟩ := xjput_s hg2
        subst hg2e
        have hgo := xjgo_s (g := (g.1, xjset 10 g.2.1 a.toNat (15, n, xjset 15 tr j (1, v)), g.2.2)) hk hF h
        intro H locs ls hP hD hS hm hn hl
        have ha := xjws_arr (r := r) (ad := ad) (tc := tc) hc hkk (by decide)
        rw [xjrow_l] at ha
        show W p l e R s m args below meth c H locs _ _ Q (F0 m pc ls (Value.long (xjdn r v).2 :: Value.int (Int32.ofInt i) :: Value.ref (ad a.toNat) :: t.map (xjcv r ad)))
        rw [hij]
        have hin : vp_in (nI j) n := vp_in_nI hj (by omega)
        refine W.last hexec hb (hP a.toNat _ ha) ((hK.2 1 _ rfl).1 n (fun j => .long ((fun q => if q < 32768 then (xjdn r (xjget 15 tr q).2).2 else 0) j))) (fun q => by cases q) (by show ¬ (nI j < 0 ∨ (arrV _ _ _).slots.size ≤ _); rw [arrV_size]; exact hin) rfl rfl hdg fun H1 e z oq => ?_
        have es : (xjws r ad tc g.2.1 g.2.2.1).set a.toNat (ad a.toNat, .inl (tc 15, n, xjrow r ad 15 (xjset 15 tr j (1, v)))) = xjws r ad tc (xjset 10 g.2.1 a.toNat (15, n, xjset 15 tr j (1, v))) g.2.2.1 := xjws_arr_set hkk hn (by decide)
        have hat : va_at D cl (ad a.toNat, .inl (tc 15, n, xjrow r ad 15 (xjset 15 tr j (1, v)))) H1 := by
          show H1[ad a.toNat]? = some (vp_cell _ _)
          rw [e, xjrow_l, vp_cell_l, vp_cell_l, arrV_store, nI_clamp (by omega)]
          congr 2
          funext q
          by_cases h9 : q < 32768
          · rw [if_pos h9, xjget_set _ 15 tr j q (by omega) h9]
            by_cases h8 : q = j
            · subst h8
              simp [updV]
            · simp [updV, h8, h9]
          · have h8 : ¬ q = j := by omega
            simp [updV, h8, h9]
        have hP1 := hP.set hD ha hat oq
        have hD1 := hD.set (e := .inl (tc 15, n, xjrow r ad 15 (xjset 15 tr j (1, v)))) ha
        rw [es] at hP1 hD1
        exact hgo H1 _ ls hP1 hD1 (hS.put z oq (hD.2 a.toNat _ ha)) hm hn hl
      · cases h
  · rename_i v x a t _
    exact xjsplit_s (mk := fun y => v :: (0, y) :: (2, .num a) :: t) (fun y z hyz => by simp only [List.map_cons, xjcv, hyz]) hk hF h
  · cases h
end XJ6
