section YC4
variable {p : Program} {l : Launch} {e : Env} {R : Room} {s : State} {m : MethodId} {args : Array Value} {below : List Frame} {meth : Method} {c : Code} {Q : State → Prop} {cl : List vw_C} {D : va_G} {A : Nat → Prop} {tc : Nat → ClassId} {ad oa : Nat → Nat} {nL cells slots : Nat}
variable {cc : ByteArray} {pc len : Nat} {lv : List (Nat × ycV)} {st : List ycV} {g g2 : ycH} {fr2 : ycF}
theorem ycin_s {i : Int} {n : Nat} (h : (ycin i n && Nat.blt n 2147483648) = true) : ∃ j : Nat, j < n ∧ n < 2 ^ 31 ∧ Int32.ofInt i = nI j ∧ (y32 i).toNat = j := by
  rw [Bool.and_eq_true] at h
  have hn := Nat.ble_eq.mp h.2
  have h1 := h.1
  unfold ycin at h1
  rw [Bool.and_eq_true, decide_eq_true_iff, decide_eq_true_iff] at h1
  refine ⟨(y32 i).toNat, by omega, by omega, ?_, rfl⟩
  apply Int32.toInt_inj.mp
  rw [nI_toInt (by omega)]
  show y32 i = _
  omega
theorem ycelem_s {kind : Nat} {i a : Int} {v : ycV} (h : ycelem kind i a g = some v) : ∃ (n : Nat) (f : Nat → ycV) (j : Nat), g.1 a.toNat = (kind, n, f) ∧ a.toNat < g.2.1 ∧ j < n ∧ n < 2 ^ 31 ∧ Int32.ofInt i = nI j ∧ v = f j := by
  unfold ycelem at h
  split at h
  rename_i c9 n f hc
  cases hq : Nat.blt a.toNat g.2.1 && (Nat.beq c9 kind && (ycin i n && Nat.blt n 2147483648)) with
  | false => rw [hq] at h; cases h
  | true =>
    rw [hq] at h
    rw [Bool.and_eq_true, Bool.and_eq_true] at hq
    obtain ⟨q1, q2, q3⟩ := hq
    obtain ⟨j, hj, hn, hij, hyj⟩ := ycin_s q3
    have e := Nat.eq_of_beq_eq_true q2
    subst e
    exact ⟨n, f, j, hc, Nat.ble_eq.mp q1, hj, hn, hij, by rw [← hyj]; exact (Option.some.inj h).symm⟩
theorem ycput_s {kind : Nat} {i a : Int} {v : ycV} {g3 : ycH} (h : ycput kind i a v g = some g3) : ∃ (n : Nat) (f : Nat → ycV) (j : Nat), g.1 a.toNat = (kind, n, f) ∧ a.toNat < g.2.1 ∧ j < n ∧ n < 2 ^ 31 ∧ Int32.ofInt i = nI j ∧ g3 = (ycup g.1 a.toNat (kind, n, ycup f j v), g.2) := by
  unfold ycput at h
  split at h
  rename_i c9 n f hc
  cases hq : Nat.blt a.toNat g.2.1 && (Nat.beq c9 kind && (ycin i n && Nat.blt n 2147483648)) with
  | false => rw [hq] at h; cases h
  | true =>
    rw [hq] at h
    rw [Bool.and_eq_true, Bool.and_eq_true] at hq
    obtain ⟨q1, q2, q3⟩ := hq
    obtain ⟨j, hj, hn, hij, hyj⟩ := ycin_s q3
    have e := Nat.eq_of_beq_eq_true q2
    subst e
    exact ⟨n, f, j, hc, Nat.ble_eq.mp q1, hj, hn, hij, by rw [← hyj]; exact (Option.some.inj h).symm⟩
theorem ycws_arr {k kind n : Nat} {t : Nat → ycV} (h : g.1 k = (kind, n, t)) (hk : k < g.2.1) (h14 : 14 ≤ kind) : (ycws ad oa tc g.1 g.2.1)[k]? = some (ad k, .inl (tc kind, n, ycrow ad kind t)) := by
  rw [ycws_at hk, h, ycte_arr h14]
theorem ycws_arr_set {k kind n : Nat} {t2 : Nat → ycV} (hk : k < g.2.1) (h14 : 14 ≤ kind) : (ycws ad oa tc g.1 g.2.1).set k (ad k, .inl (tc kind, n, ycrow ad kind t2)) = ycws ad oa tc (ycup g.1 k (kind, n, t2)) g.2.1 := by
  rw [← ycws_set hk, ycte_arr h14]
theorem ycws_obj {k ci n : Nat} {t : Nat → ycV} (h : g.1 k = (ci, n, t)) (hk : k < g.2.1) (h14 : ci < 14) : (ycws ad oa tc g.1 g.2.1)[k]? = some (ad k, .inr (ci, (List.range n).map fun j => ycv ad oa (t j))) := by
  rw [ycws_at hk, h, ycte_obj h14]
theorem ycws_obj_set {k ci n j : Nat} {t : Nat → ycV} {v : ycV} (hk : k < g.2.1) (h14 : ci < 14) : (ycws ad oa tc g.1 g.2.1).set k (ad k, .inr (ci, ((List.range n).map fun j => ycv ad oa (t j)).set j (ycv ad oa v))) = ycws ad oa tc (ycup g.1 k (ci, n, ycup t j v)) g.2.1 := by
  rw [← ycws_set hk, ycte_obj h14, ycmap_set]
/-- arrays that were there before the law began: what they hold -/
def ycold (old : Nat → Nat × (Nat → Int)) (oa : Nat → Nat) (A : Nat → Prop) (U : State) (H : Heap) : Prop := ∀ k : Nat, k < 6 → va_X (oa k) (old k).1 (fun j => Int32.ofInt ((old k).2 j)) U H ∧ oa k < H.size ∧ ¬ A (oa k)
variable {old : Nat → Nat × (Nat → Int)}
theorem ycoldat_s {i a v : Int} (h : ycoldat old i a = some v) : ∃ j : Nat, j < (old a.toNat).1 ∧ (old a.toNat).1 < 2 ^ 31 ∧ Int32.ofInt i = nI j ∧ v = (old a.toNat).2 j := by
  unfold ycoldat at h
  split at h
  rename_i n f hc
  cases hq : ycin i n && Nat.blt n 2147483648 with
  | false => rw [hq] at h; cases h
  | true =>
    rw [hq] at h
    obtain ⟨j, hj, hn, hij, hyj⟩ := ycin_s hq
    rw [hc]
    exact ⟨j, hj, hn, hij, by rw [← hyj]; exact (Option.some.inj h).symm⟩
theorem ycald_s (hexec : p.tables.exec = Jvm.exec) (hb : c.code = cc) (hK : va_K D cl (yctys tc) s) (hz : ∀ k, 6 ≤ k → (old k).1 = 0) (hold : ycold old oa A s s.heap) (hdg : decode cc pc = .ok (.iaload, 1)) (h : ycald old pc lv st g = some (fr2, g2)) (hk : ychold p l e R s m args below meth c Q cl D A tc ad oa nL cells slots fr2 g2) : ychold p l e R s m args below meth c Q cl D A tc ad oa nL cells slots (pc, lv, st) g := by
  unfold ycald at h
  split at h
  · rename_i i a t
    split at h
    · rename_i v hv
      obtain ⟨n, f, j, hc, ha, hj, hn, hij, hvj⟩ := ycelem_s hv
      have hgo := ycgo_s h hk
      intro H locs ls hP hD hS hm hl
      have h1 := hgo H locs ls hP hD hS hm hl
      have he := ycws_arr (ad := ad) (oa := oa) (tc := tc) hc ha (by decide)
      rw [ycrow_i (Or.inl rfl)] at he
      show W p l e R s m args below meth c H locs _ _ Q (F0 m pc ls (Value.int (Int32.ofInt i) :: Value.ref (ad a.toNat) :: t.map (ycv ad oa)))
      rw [hij]
      refine va_iald hexec hb hK hP a.toNat 0 he rfl (vp_in_nI hj hn) hdg ?_
      rw [nI_clamp (by omega)]
      subst hvj
      exact h1
    · cases h
  · rename_i i a t
    split at h
    · rename_i v hv
      obtain ⟨j, hj, hn, hij, hvj⟩ := ycoldat_s hv
      have hk6 : a.toNat < 6 := by
        rcases Nat.lt_or_ge a.toNat 6 with z | z
        · exact z
        · rw [hz _ z] at hj
          omega
      obtain ⟨o1, o2, o3⟩ := hold _ hk6
      have hgo := ycgo_s h hk
      intro H locs ls hP hD hS hm hl
      have h1 := hgo H locs ls hP hD hS hm hl
      show W p l e R s m args below meth c H locs _ _ Q (F0 m pc ls (Value.int (Int32.ofInt i) :: Value.ref (oa a.toNat) :: t.map (ycv ad oa)))
      rw [hij]
      refine va_sld hexec hb o1 o2 o3 hS (vp_in_nI hj hn) hdg ?_
      rw [nI_clamp (by omega)]
      subst hvj
      exact h1
    · cases h
  · cases h
theorem ycbald_s (hexec : p.tables.exec = Jvm.exec) (hb : c.code = cc) (hK : va_K D cl (yctys tc) s) (hdg : decode cc pc = .ok (.baload, 1)) (h : ycbald pc lv st g = some (fr2, g2)) (hk : ychold p l e R s m args below meth c Q cl D A tc ad oa nL cells slots fr2 g2) : ychold p l e R s m args below meth c Q cl D A tc ad oa nL cells slots (pc, lv, st) g := by
  unfold ycbald at h
  split at h
  · rename_i i a t
    split at h
    · rename_i v hv
      obtain ⟨n, f, j, hc, ha, hj, hn, hij, hvj⟩ := ycelem_s hv
      have hgo := ycgo_s h hk
      intro H locs ls hP hD hS hm hl
      have h1 := hgo H locs ls hP hD hS hm hl
      have he := ycws_arr (ad := ad) (oa := oa) (tc := tc) hc ha (by decide)
      rw [ycrow_i (Or.inr rfl)] at he
      show W p l e R s m args below meth c H locs _ _ Q (F0 m pc ls (Value.int (Int32.ofInt i) :: Value.ref (ad a.toNat) :: t.map (ycv ad oa)))
      rw [hij]
      refine va_zald hexec hb hK hP a.toNat 2 he rfl (vp_in_nI hj hn) hdg ?_
      rw [nI_clamp (by omega)]
      subst hvj
      exact h1
    · cases h
  · cases h
theorem yclald_s (hexec : p.tables.exec = Jvm.exec) (hb : c.code = cc) (hK : va_K D cl (yctys tc) s) (hdg : decode cc pc = .ok (.laload, 1)) (h : yclald pc lv st g = some (fr2, g2)) (hk : ychold p l e R s m args below meth c Q cl D A tc ad oa nL cells slots fr2 g2) : ychold p l e R s m args below meth c Q cl D A tc ad oa nL cells slots (pc, lv, st) g := by
  unfold yclald at h
  split at h
  · rename_i i a t
    split at h
    · rename_i v hv
      obtain ⟨n, f, j, hc, ha, hj, hn, hij, hvj⟩ := ycelem_s hv
      have hgo := ycgo_s h hk
      intro H locs ls hP hD hS hm hl
      have h1 := hgo H locs ls hP hD hS hm hl
      have he := ycws_arr (ad := ad) (oa := oa) (tc := tc) hc ha (by decide)
      rw [ycrow_l] at he
      show W p l e R s m args below meth c H locs _ _ Q (F0 m pc ls (Value.int (Int32.ofInt i) :: Value.ref (ad a.toNat) :: t.map (ycv ad oa)))
      rw [hij]
      refine va_lald hexec hb hK hP a.toNat 1 he rfl (vp_in_nI hj hn) hdg ?_
      rw [nI_clamp (by omega)]
      subst hvj
      exact h1
    · cases h
  · cases h
theorem ycaald_s (hexec : p.tables.exec = Jvm.exec) (hb : c.code = cc) (hK : va_K D cl (yctys tc) s) (hdg : decode cc pc = .ok (.aaload, 1)) (h : ycaald pc lv st g = some (fr2, g2)) (hk : ychold p l e R s m args below meth c Q cl D A tc ad oa nL cells slots fr2 g2) : ychold p l e R s m args below meth c Q cl D A tc ad oa nL cells slots (pc, lv, st) g := by
  unfold ycaald at h
  split at h
  · rename_i i a t
    generalize hkind : (g.1 a.toNat).1 = kind at h
    cases hq : Nat.ble 17 kind && Nat.ble kind 20 with
    | false => rw [hq] at h; cases h
    | true =>
      rw [hq] at h
      rw [Bool.and_eq_true] at hq
      have hk1 := Nat.ble_eq.mp hq.1
      have hk2 := Nat.ble_eq.mp hq.2
      change (match ycelem kind i a g with | some v => bif Nat.beq v.1 2 || Nat.beq v.1 3 then ycgo (pc + 1) lv (v :: t) g else none | none => none) = some (fr2, g2) at h
      split at h
      · rename_i v hv
        obtain ⟨n, f, j, hc, ha, hj, hn, hij, hvj⟩ := ycelem_s hv
        cases hv2 : Nat.beq v.1 2 || Nat.beq v.1 3 with
        | false => rw [hv2] at h; cases h
        | true =>
          rw [hv2] at h
          have hv3 : v.1 = 2 ∨ v.1 = 3 := by
            rw [Bool.or_eq_true] at hv2
            exact hv2.imp Nat.eq_of_beq_eq_true Nat.eq_of_beq_eq_true
          have hgo := ycgo_s h hk
          intro H locs ls hP hD hS hm hl
          have h1 := hgo H locs ls hP hD hS hm hl
          have he := ycws_arr (ad := ad) (oa := oa) (tc := tc) hc ha (by omega)
          rw [ycrow_r hk1] at he
          have ht : ∃ ty, (yctys tc)[kind - 14]? = some (tc kind, ty) ∧ ((∃ C, ty = .object C) ∨ ∃ u, ty = .array u) := by
            have : kind = 17 ∨ kind = 18 ∨ kind = 19 ∨ kind = 20 := by omega
            rcases this with z | z | z | z <;> subst z
            · exact ⟨_, rfl, Or.inl ⟨_, rfl⟩⟩
            · exact ⟨_, rfl, Or.inl ⟨_, rfl⟩⟩
            · exact ⟨_, rfl, Or.inr ⟨_, rfl⟩⟩
            · exact ⟨_, rfl, Or.inr ⟨_, rfl⟩⟩
          obtain ⟨ty, ht, hty⟩ := ht
          show W p l e R s m args below meth c H locs _ _ Q (F0 m pc ls (Value.int (Int32.ofInt i) :: Value.ref (ad a.toNat) :: t.map (ycv ad oa)))
          rw [hij]
          have hrd : ycv ad oa v = va_rf (ycro ad (f j)) := by rw [← hvj, ycro_s hv3]
          have hin := vp_in_nI hj hn
          refine W.aald (v := ycv ad oa v) (ty := ty) hexec hb (hP a.toNat _ he) ((hK.2 (kind - 14) _ ht).1 n (fun q => va_rf (ycro ad (f q)))) (by rcases hty with ⟨C, rfl⟩ | ⟨u, rfl⟩ <;> rfl) (fun q => by cases q) (by show ¬ (nI j < 0 ∨ (arrV _ _ _).slots.size ≤ _); rw [arrV_size]; exact hin) (by show (arrV _ _ _).slots[_]? = _; rw [nI_clamp (by omega), arrV_read _ _ hj, hrd]) rfl rfl hdg h1
      · cases h
  · cases h
theorem ycalen_s (hexec : p.tables.exec = Jvm.exec) (hb : c.code = cc) (hK : va_K D cl (yctys tc) s) (hz : ∀ k, 6 ≤ k → (old k).1 = 0) (hold : ycold old oa A s s.heap) (hdg : decode cc pc = .ok (.arraylength, 1)) (h : ycalen old pc lv st g = some (fr2, g2)) (hk : ychold p l e R s m args below meth c Q cl D A tc ad oa nL cells slots fr2 g2) : ychold p l e R s m args below meth c Q cl D A tc ad oa nL cells slots (pc, lv, st) g := by
  unfold ycalen at h
  split at h
  · rename_i a t
    split at h
    rename_i k n f hc
    cases hq : Nat.blt a.toNat g.2.1 && (Nat.ble 14 k && (Nat.ble k 20 && Nat.blt n 2147483648)) with
    | false => rw [hq] at h; cases h
    | true =>
      rw [hq] at h
      rw [Bool.and_eq_true, Bool.and_eq_true, Bool.and_eq_true] at hq
      obtain ⟨q1, q2, q3, q4⟩ := hq
      have ha := Nat.ble_eq.mp q1
      have hk1 := Nat.ble_eq.mp q2
      have hk2 := Nat.ble_eq.mp q3
      have hgo := ycgo_s h hk
      intro H locs ls hP hD hS hm hl
      have he := ycws_arr (ad := ad) (oa := oa) (tc := tc) hc ha hk1
      have ht : ∃ ty, (yctys tc)[k - 14]? = some (tc k, ty) := by
        have : k = 14 ∨ k = 15 ∨ k = 16 ∨ k = 17 ∨ k = 18 ∨ k = 19 ∨ k = 20 := by omega
        rcases this with z | z | z | z | z | z | z <;> (subst z; exact ⟨_, rfl⟩)
      obtain ⟨ty, ht⟩ := ht
      refine va_alen hexec hb hK hP a.toNat (k - 14) he ht (v := Int32.ofInt (n : Int)) ?_ hdg (hgo H locs ls hP hD hS hm hl)
      exact (Int32.ofInt_eq_ofNat).symm
  · rename_i a t
    cases hq : Nat.blt a.toNat 6 && Nat.blt (old a.toNat).1 2147483648 with
    | false => rw [hq] at h; cases h
    | true =>
      rw [hq] at h
      rw [Bool.and_eq_true] at hq
      obtain ⟨o1, o2, o3⟩ := hold _ (Nat.ble_eq.mp hq.1)
      have hgo := ycgo_s h hk
      intro H locs ls hP hD hS hm hl
      have h1 := hgo H locs ls hP hD hS hm hl
      refine va_slen hexec hb o1 o2 o3 hS hdg ?_
      rw [show Int32.ofNat (old a.toNat).1 = Int32.ofInt ((old a.toNat).1 : Int) from (Int32.ofInt_eq_ofNat).symm]
      exact h1
  · cases h
theorem ycast_i {v : ycV} (hv : v.1 = 0) (hexec : p.tables.exec = Jvm.exec) (hb : c.code = cc) (hK : va_K D cl (yctys tc) s) (hdg : decode cc pc = .ok (.iastore, 1)) {i a : Int} {t : List ycV} {g3 : ycH} (hp : ycput 14 i a v g = some g3) (hk : ychold p l e R s m args below meth c Q cl D A tc ad oa nL cells slots (pc + 1, lv, t) g3) : ychold p l e R s m args below meth c Q cl D A tc ad oa nL cells slots (pc, lv, v :: (0, i) :: (2, a) :: t) g := by
  obtain ⟨n, f, j, hc, ha, hj, hn, hij, hg3⟩ := ycput_s hp
  subst hg3
  obtain ⟨k9, x⟩ := v
  cases hv
  intro H locs ls hP hD hS hm hl
  have he := ycws_arr (ad := ad) (oa := oa) (tc := tc) hc ha (by decide)
  rw [ycrow_i (Or.inl rfl)] at he
  show W p l e R s m args below meth c H locs _ _ Q (F0 m pc ls (Value.int (Int32.ofInt x) :: Value.int (Int32.ofInt i) :: Value.ref (ad a.toNat) :: t.map (ycv ad oa)))
  rw [hij]
  have hin : vp_in (nI j) n := vp_in_nI hj hn
  refine W.iast hexec hb (hP a.toNat _ he) ((hK.2 0 _ rfl).1 n (fun q => .int (Int32.ofInt (f q).2))) (fun q => by cases q) (by show ¬ (nI j < 0 ∨ (arrV _ _ _).slots.size ≤ _); rw [arrV_size]; exact hin) rfl rfl hdg fun H1 e z oq => ?_
  have es : (ycws ad oa tc g.1 g.2.1).set a.toNat (ad a.toNat, .inl (tc 14, n, ycrow ad 14 (ycup f j (0, x)))) = ycws ad oa tc (ycup g.1 a.toNat (14, n, ycup f j (0, x))) g.2.1 := ycws_arr_set ha (by decide)
  have hat : va_at D cl (ad a.toNat, .inl (tc 14, n, ycrow ad 14 (ycup f j (0, x)))) H1 := by
    show H1[ad a.toNat]? = some (vp_cell _ _)
    rw [e, ycrow_i (Or.inl rfl), vp_cell_i, vp_cell_i, arrV_store, nI_clamp (by omega)]
    congr 2
    funext q
    by_cases h8 : q = j
    · subst h8
      simp [updV, ycup]
    · simp [updV, ycup, h8]
  have hP1 := hP.set hD he hat oq
  have hD1 := hD.set (e := .inl (tc 14, n, ycrow ad 14 (ycup f j (0, x)))) he
  rw [es] at hP1 hD1
  exact hk H1 _ ls hP1 hD1 (hS.put z oq (hD.2 a.toNat _ he)) (fun hm2 => by rw [z]; exact hm hm2) hl
theorem ycast_l {v : ycV} (hv : v.1 = 1) (hexec : p.tables.exec = Jvm.exec) (hb : c.code = cc) (hK : va_K D cl (yctys tc) s) (hdg : decode cc pc = .ok (.lastore, 1)) {i a : Int} {t : List ycV} {g3 : ycH} (hp : ycput 15 i a v g = some g3) (hk : ychold p l e R s m args below meth c Q cl D A tc ad oa nL cells slots (pc + 1, lv, t) g3) : ychold p l e R s m args below meth c Q cl D A tc ad oa nL cells slots (pc, lv, v :: (0, i) :: (2, a) :: t) g := by
  obtain ⟨n, f, j, hc, ha, hj, hn, hij, hg3⟩ := ycput_s hp
  subst hg3
  obtain ⟨k9, x⟩ := v
  cases hv
  intro H locs ls hP hD hS hm hl
  have he := ycws_arr (ad := ad) (oa := oa) (tc := tc) hc ha (by decide)
  rw [ycrow_l] at he
  show W p l e R s m args below meth c H locs _ _ Q (F0 m pc ls (Value.long (Int64.ofInt x) :: Value.int (Int32.ofInt i) :: Value.ref (ad a.toNat) :: t.map (ycv ad oa)))
  rw [hij]
  have hin : vp_in (nI j) n := vp_in_nI hj hn
  refine W.last hexec hb (hP a.toNat _ he) ((hK.2 1 _ rfl).1 n (fun q => .long (Int64.ofInt (f q).2))) (fun q => by cases q) (by show ¬ (nI j < 0 ∨ (arrV _ _ _).slots.size ≤ _); rw [arrV_size]; exact hin) rfl rfl hdg fun H1 e z oq => ?_
  have es : (ycws ad oa tc g.1 g.2.1).set a.toNat (ad a.toNat, .inl (tc 15, n, ycrow ad 15 (ycup f j (1, x)))) = ycws ad oa tc (ycup g.1 a.toNat (15, n, ycup f j (1, x))) g.2.1 := ycws_arr_set ha (by decide)
  have hat : va_at D cl (ad a.toNat, .inl (tc 15, n, ycrow ad 15 (ycup f j (1, x)))) H1 := by
    show H1[ad a.toNat]? = some (vp_cell _ _)
    rw [e, ycrow_l, vp_cell_l, vp_cell_l, arrV_store, nI_clamp (by omega)]
    congr 2
    funext q
    by_cases h8 : q = j
    · subst h8
      simp [updV, ycup]
    · simp [updV, ycup, h8]
  have hP1 := hP.set hD he hat oq
  have hD1 := hD.set (e := .inl (tc 15, n, ycrow ad 15 (ycup f j (1, x)))) he
  rw [es] at hP1 hD1
  exact hk H1 _ ls hP1 hD1 (hS.put z oq (hD.2 a.toNat _ he)) (fun hm2 => by rw [z]; exact hm hm2) hl
theorem ycast_z {v : ycV} (hv : v.1 = 0) (hv2 : v.2 = 0 ∨ v.2 = 1) (hexec : p.tables.exec = Jvm.exec) (hb : c.code = cc) (hK : va_K D cl (yctys tc) s) (hdg : decode cc pc = .ok (.bastore, 1)) {i a : Int} {t : List ycV} {g3 : ycH} (hp : ycput 16 i a v g = some g3) (hk : ychold p l e R s m args below meth c Q cl D A tc ad oa nL cells slots (pc + 1, lv, t) g3) : ychold p l e R s m args below meth c Q cl D A tc ad oa nL cells slots (pc, lv, v :: (0, i) :: (2, a) :: t) g := by
  obtain ⟨n, f, j, hc, ha, hj, hn, hij, hg3⟩ := ycput_s hp
  subst hg3
  obtain ⟨k9, x⟩ := v
  cases hv
  intro H locs ls hP hD hS hm hl
  have he := ycws_arr (ad := ad) (oa := oa) (tc := tc) hc ha (by decide)
  rw [ycrow_i (Or.inr rfl)] at he
  show W p l e R s m args below meth c H locs _ _ Q (F0 m pc ls (Value.int (Int32.ofInt x) :: Value.int (Int32.ofInt i) :: Value.ref (ad a.toNat) :: t.map (ycv ad oa)))
  rw [hij]
  have hin : vp_in (nI j) n := vp_in_nI hj hn
  refine W.zast hexec hb (hP a.toNat _ he) ((hK.2 2 _ rfl).1 n (fun q => .int (Int32.ofInt (f q).2))) (fun q => by cases q) (by show ¬ (nI j < 0 ∨ (arrV _ _ _).slots.size ≤ _); rw [arrV_size]; exact hin) rfl rfl hdg fun H1 e z oq => ?_
  have es : (ycws ad oa tc g.1 g.2.1).set a.toNat (ad a.toNat, .inl (tc 16, n, ycrow ad 16 (ycup f j (0, x)))) = ycws ad oa tc (ycup g.1 a.toNat (16, n, ycup f j (0, x))) g.2.1 := ycws_arr_set ha (by decide)
  have hx2 : narrow .boolean (Value.int (Int32.ofInt x)) = Value.int (Int32.ofInt x) := by
    have hv2 : x = 0 ∨ x = 1 := hv2
    rcases hv2 with rfl | rfl <;> decide
  have hat : va_at D cl (ad a.toNat, .inl (tc 16, n, ycrow ad 16 (ycup f j (0, x)))) H1 := by
    show H1[ad a.toNat]? = some (vp_cell _ _)
    rw [e, ycrow_i (Or.inr rfl), vp_cell_i, vp_cell_i, arrV_store, nI_clamp (by omega)]
    congr 2
    funext q
    by_cases h8 : q = j
    · subst h8
      simp [updV, ycup, hx2]
    · simp [updV, ycup, h8]
  have hP1 := hP.set hD he hat oq
  have hD1 := hD.set (e := .inl (tc 16, n, ycrow ad 16 (ycup f j (0, x)))) he
  rw [es] at hP1 hD1
  exact hk H1 _ ls hP1 hD1 (hS.put z oq (hD.2 a.toNat _ he)) (fun hm2 => by rw [z]; exact hm hm2) hl
end YC4
