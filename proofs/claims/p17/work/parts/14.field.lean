section YC5
variable {p : Program} {l : Launch} {e : Env} {R : Room} {s : State} {m : MethodId} {args : Array Value} {below : List Frame} {meth : Method} {c : Code} {Q : State → Prop} {cl : List vw_C} {D : va_G} {A : Nat → Prop} {tc : Nat → ClassId} {ad oa : Nat → Nat} {nL cells slots : Nat}
variable {cc : ByteArray} {pc len : Nat} {lv : List (Nat × ycV)} {st : List ycV} {g g2 : ycH} {fr2 : ycF}
theorem ycS_trans {A : Nat → Prop} {H0 H H1 : Heap} {locs locs1 : List Loc} (h : va_S A H0 H locs) (h1 : va_S A H H1 locs1) : va_S A H0 H1 locs1 := ⟨Nat.le_trans h.1 h1.1, fun q a b => (h1.2.1 q (Nat.lt_of_lt_of_le a h.1) b).trans (h.2.1 q a b), h1.2.2⟩
def ycsort (n : Nat) (t : FieldType) : Prop := match n with
  | 0 => t = .int
  | 1 => t = .boolean
  | 2 => t = .long
  | _ => (∃ C, t = .object C) ∨ ∃ u, t = .array u
def ycfok (Ts : List Cond) (own : String) (cl : List vw_C) (index : Nat) (x : ycFd) : Prop := ∃ (C : String) (T : u_T) (N : Nat) (ty0 : Nat → FieldType), cl[x.1]? = some (C, T, N) ∧ x.2.1 < N ∧ x.1 < 14 ∧ (∀ w ∈ u_ws C T N, w ∈ Ts) ∧ (∀ k, k < N → parseFieldDescriptor (T k).2.2.1 = some (ty0 k)) ∧ (∀ a, a < N → ∀ b, b < N → a ≠ b → (T a).2.1 ≠ (T b).2.1) ∧
  (x.2.2.2.2 = false → Cond.fieldLink own index (T x.2.1).1 (T x.2.1).2.1 (T x.2.1).2.2.1 ∈ Ts) ∧ (x.2.2.2.2 = true → Cond.fieldLinkNest own index (T x.2.1).1 (T x.2.1).2.1 (T x.2.1).2.2.1 "PictureCodingHouse" ∈ Ts ∨ Cond.fieldLink own index (T x.2.1).1 (T x.2.1).2.1 (T x.2.1).2.2.1 ∈ Ts) ∧ (T x.2.1).2.2.2 = x.2.2.2.1 ∧ (x.2.2.2.1 = true → x.2.2.2.2 = false → (T x.2.1).1 = own) ∧ ycsort x.2.2.1 (ty0 x.2.1)
theorem ycfit_s {k : Nat} {v : ycV} {ty : FieldType} (h : ycfit k v = true) (ht : ycsort k ty) : narrow ty (ycv ad oa v) = ycv ad oa v ∧ fits ty (ycv ad oa v) = true := by
  unfold ycfit at h
  split at h
  · change ty = .int at ht
    subst ht
    exact ⟨rfl, rfl⟩
  · rename_i y
    change ty = .boolean at ht
    subst ht
    rw [Bool.or_eq_true, decide_eq_true_iff, decide_eq_true_iff] at h
    rcases h with h | h
    · subst h; exact ⟨by show narrow .boolean (.int (Int32.ofInt 0)) = .int (Int32.ofInt 0); decide, by show fits .boolean (.int (Int32.ofInt 0)) = true; decide⟩
    · subst h; exact ⟨by show narrow .boolean (.int (Int32.ofInt 1)) = .int (Int32.ofInt 1); decide, by show fits .boolean (.int (Int32.ofInt 1)) = true; decide⟩
  · change ty = .long at ht
    subst ht
    exact ⟨rfl, rfl⟩
  · change (∃ C, ty = .object C) ∨ ∃ u, ty = .array u at ht
    rcases ht with ⟨C, rfl⟩ | ⟨u, rfl⟩ <;> exact ⟨rfl, rfl⟩
  · change (∃ C, ty = .object C) ∨ ∃ u, ty = .array u at ht
    rcases ht with ⟨C, rfl⟩ | ⟨u, rfl⟩ <;> exact ⟨rfl, rfl⟩
  · cases h
theorem ycgetf_s {own : String} {Ts : List Cond} {index : Nat} {x : ycFd} (hexec : p.tables.exec = Jvm.exec) (hb : c.code = cc) (hown : s.vm.findClass own = some m.cls) (hts : ∀ w ∈ Ts, w.before args s = true) (hK : va_K D cl (yctys tc) s) (hx : ycfok Ts own cl index x) (hdg : decode cc pc = .ok (.getfield index, 3)) (h : ycgetf x pc lv st g = some (fr2, g2)) (hk : ychold p l e R s m args below meth c Q cl D A tc ad oa nL cells slots fr2 g2) : ychold p l e R s m args below meth c Q cl D A tc ad oa nL cells slots (pc, lv, st) g := by
  obtain ⟨C, T, N, ty0, hcl, hN, h14, hin, hty, hnm, hl1, hl2, hfi, hdc, hso⟩ := hx
  unfold ycgetf at h
  split at h
  · rename_i a t
    split at h
    rename_i c9 n f hc
    cases hq : Nat.blt a.toNat g.2.1 && (Nat.beq c9 x.1 && Nat.blt x.2.1 n) with
    | false => rw [hq] at h; cases h
    | true =>
      rw [hq] at h
      rw [Bool.and_eq_true, Bool.and_eq_true] at hq
      obtain ⟨q1, q2, q3⟩ := hq
      have ha := Nat.ble_eq.mp q1
      have hci := Nat.eq_of_beq_eq_true q2
      have hjn := Nat.ble_eq.mp q3
      subst hci
      have hgo := ycgo_s h hk
      intro H locs ls hP hD hS hm hl
      have h1 := hgo H locs ls hP hD hS hm hl
      have he := ycws_obj (ad := ad) (oa := oa) (tc := tc) hc ha h14
      show W p l e R s m args below meth c H locs _ _ Q (F0 m pc ls (Value.ref (ad a.toNat) :: t.map (ycv ad oa)))
      cases hne : x.2.2.2.2 with
      | false => exact va_get hexec hb hts hin hown hK hP a.toNat he hcl x.2.1 hN (hts _ (hl1 hne)) (fun _ z => z) (v := ycv ad oa (f x.2.1)) (ycmap_at hjn) hdg h1
      | true =>
        rcases hl2 hne with hl3 | hl3
        · exact va_getN hexec hb hts hin hown hK hP a.toNat he hcl x.2.1 hN (hts _ hl3) (fun _ z => z) (v := ycv ad oa (f x.2.1)) (ycmap_at hjn) hdg h1
        · exact va_get hexec hb hts hin hown hK hP a.toNat he hcl x.2.1 hN (hts _ hl3) (fun _ z => z) (v := ycv ad oa (f x.2.1)) (ycmap_at hjn) hdg h1
  · cases h
theorem ycputf_s {own : String} {Ts : List Cond} {index : Nat} {x : ycFd} {ini : Bool} (hexec : p.tables.exec = Jvm.exec) (hb : c.code = cc) (hown : s.vm.findClass own = some m.cls) (hts : ∀ w ∈ Ts, w.before args s = true) (hK : va_K D cl (yctys tc) s) (hini : ini = true → meth.name = "<init>") (hx : ycfok Ts own cl index x) (hdg : decode cc pc = .ok (.putfield index, 3)) (h : ycputf x ini pc lv st g = some (fr2, g2)) (hk : ychold p l e R s m args below meth c Q cl D A tc ad oa nL cells slots fr2 g2) : ychold p l e R s m args below meth c Q cl D A tc ad oa nL cells slots (pc, lv, st) g := by
  obtain ⟨C, T, N, ty0, hcl, hN, h14, hin, hty, hnm, hl1, hl2, hfi, hdc, hso⟩ := hx
  unfold ycputf at h
  split at h
  · rename_i v a t
    split at h
    rename_i c9 n f hc
    cases hq : Nat.blt a.toNat g.2.1 && (Nat.beq c9 x.1 && (Nat.blt x.2.1 n && (ycfit x.2.2.1 v && (bif x.2.2.2.1 then ini && !x.2.2.2.2 else true)))) with
    | false => rw [hq] at h; cases h
    | true =>
      rw [hq] at h
      rw [Bool.and_eq_true, Bool.and_eq_true, Bool.and_eq_true, Bool.and_eq_true] at hq
      obtain ⟨q1, q2, q3, q5, q6⟩ := hq
      have ha := Nat.ble_eq.mp q1
      have hci := Nat.eq_of_beq_eq_true q2
      have hjn := Nat.ble_eq.mp q3
      subst hci
      obtain ⟨hn1, hn2⟩ := ycfit_s (ad := ad) (oa := oa) q5 hso
      have hgo := ycgo_s h hk
      intro H locs ls hP hD hS hm hl
      have he := ycws_obj (ad := ad) (oa := oa) (tc := tc) hc ha h14
      have es := ycws_obj_set (ad := ad) (oa := oa) (tc := tc) (n := n) (j := x.2.1) (t := f) (v := v) ha h14
      show W p l e R s m args below meth c H locs _ _ Q (F0 m pc ls (ycv ad oa v :: Value.ref (ad a.toNat) :: t.map (ycv ad oa)))
      have hS0 : va_S A H H locs := ⟨Nat.le_refl _, fun _ _ _ => rfl, hS.2.2⟩
      have kk : ∀ (H1 : Heap) (locs1 : List Loc), va_P D cl ((ycws ad oa tc g.1 g.2.1).set a.toNat (ad a.toNat, .inr (x.1, ((List.range n).map fun j => ycv ad oa (f j)).set x.2.1 (ycv ad oa v)))) H1 → va_D A ((ycws ad oa tc g.1 g.2.1).set a.toNat (ad a.toNat, .inr (x.1, ((List.range n).map fun j => ycv ad oa (f j)).set x.2.1 (ycv ad oa v)))) → va_S A H H1 locs1 → W p l e R s m args below meth c H1 locs1 cells slots Q (F0 m (pc + 3) ls (t.map (ycv ad oa))) := by
        intro H1 locs1 hP1 hD1 hS1
        rw [es] at hP1 hD1
        exact hgo H1 locs1 ls hP1 hD1 (ycS_trans hS hS1) (fun hm2 => ⟨(hm hm2).1, Nat.le_trans (hm hm2).2 hS1.1⟩) hl
      have hlen : x.2.1 < ((List.range n).map fun j => ycv ad oa (f j)).length := by rw [List.length_map, List.length_range]; exact hjn
      cases hfin : x.2.2.2.1 with
      | false =>
        cases hne : x.2.2.2.2 with
        | false => exact va_put hexec hb hts hin ty0 hty hnm hown hK hP hD hS0 a.toNat he hcl x.2.1 hN (hts _ (hl1 hne)) (fun _ z => z) (hfi.trans hfin) (hty _ hN) hn1 hn2 hlen hdg kk
        | true =>
          rcases hl2 hne with hl3 | hl3
          · exact va_putN hexec hb hts hin ty0 hty hnm hown hK hP hD hS0 a.toNat he hcl x.2.1 hN (hts _ hl3) (fun _ z => z) (hfi.trans hfin) (hty _ hN) hn1 hn2 hlen hdg kk
          · exact va_put hexec hb hts hin ty0 hty hnm hown hK hP hD hS0 a.toNat he hcl x.2.1 hN (hts _ hl3) (fun _ z => z) (hfi.trans hfin) (hty _ hN) hn1 hn2 hlen hdg kk
      | true =>
        rw [hfin] at q6
        change (ini && !x.2.2.2.2) = true at q6
        rw [Bool.and_eq_true] at q6
        have hne : x.2.2.2.2 = false := by
          have := q6.2
          cases hz : x.2.2.2.2 with
          | false => rfl
          | true => rw [hz] at this; cases this
        exact va_putF hexec hb hts hin ty0 hty hnm hown hK hP hD hS0 a.toNat he hcl x.2.1 hN (hts _ (hl1 hne)) (fun _ z => z) (hfi.trans hfin) (hini q6.1) (hdc hfin hne) (hty _ hN) hn1 hn2 hlen hdg kk
  · cases h
theorem ycacm_s {cnd : ClassFile.ACond} {off : Int} (hexec : p.tables.exec = Jvm.exec) (hb : c.code = cc) (hdg : decode cc pc = .ok (.if_acmp cnd off, 3)) (h : ycacm cnd pc off lv st g = some (fr2, g2)) (hk : ychold p l e R s m args below meth c Q cl D A tc ad oa nL cells slots fr2 g2) : ychold p l e R s m args below meth c Q cl D A tc ad oa nL cells slots (pc, lv, st) g := by
  unfold ycacm at h
  split at h
  · rename_i b a t
    cases hq : Nat.blt a.toNat g.2.1 && Nat.blt b.toNat g.2.1 with
    | false => rw [hq] at h; cases h
    | true =>
      rw [hq] at h
      rw [Bool.and_eq_true] at hq
      have ha := Nat.ble_eq.mp hq.1
      have hb2 := Nat.ble_eq.mp hq.2
      intro H locs ls hP hD hS hm hl
      have hinj : ad a.toNat = ad b.toNat → a.toNat = b.toNat := fun z => hD.1 _ _ _ _ (ycws_at ha) (ycws_at hb2) z
      cases cnd with
      | eq =>
        refine ycfork_s (lv := lv) (st := (2, b) :: (2, a) :: t) (P := (some (ad a.toNat) : Option Nat) = some (ad b.toNat)) ?_ (fun H locs ls tgt ht kt kf => lv_acmp_eq (rx := some (ad a.toNat)) (ry := some (ad b.toNat)) hexec hb hdg ht kt kf) h hk H locs ls hP hD hS hm hl
        show Nat.beq a.toNat b.toNat = true ↔ _
        exact ⟨fun z => by rw [Nat.eq_of_beq_eq_true z], fun z => by rw [hinj (Option.some.inj z)]; exact Nat.beq_refl _⟩
      | ne =>
        refine ycfork_s (lv := lv) (st := (2, b) :: (2, a) :: t) (P := ¬ (some (ad a.toNat) : Option Nat) = some (ad b.toNat)) ?_ (fun H locs ls tgt ht kt kf => lv_acmp_ne (rx := some (ad a.toNat)) (ry := some (ad b.toNat)) hexec hb hdg ht kt (fun z => kf (fun y => y z))) h hk H locs ls hP hD hS hm hl
        show (!(Nat.beq a.toNat b.toNat)) = true ↔ _
        cases hz : Nat.beq a.toNat b.toNat with
        | true => exact ⟨fun z => absurd z (by simp), fun z => absurd (by rw [Nat.eq_of_beq_eq_true hz]) z⟩
        | false => exact ⟨fun _ z => Nat.ne_of_beq_eq_false hz (hinj (Option.some.inj z)), fun _ => rfl⟩
  · cases h
/-- the object classes of the cells, by their kinds -/
def ycclok (cl : List vw_C) : Prop := (∃ T N, cl[3]? = some ("PictureCodingHouse$ByteRow", T, N)) ∧ ∃ T N, cl[6]? = some ("PictureCodingHouse$Grid", T, N)
theorem ycaast_s (hexec : p.tables.exec = Jvm.exec) (hb : c.code = cc) (hK : va_K D cl (yctys tc) s) (hcl : ycclok cl) (hdg : decode cc pc = .ok (.aastore, 1)) (h : ycaast pc lv st g = some (fr2, g2)) (hk : ychold p l e R s m args below meth c Q cl D A tc ad oa nL cells slots fr2 g2) : ychold p l e R s m args below meth c Q cl D A tc ad oa nL cells slots (pc, lv, st) g := by
  unfold ycaast at h
  split at h
  · rename_i v i a t
    cases hq : Nat.blt v.toNat g.2.1 && ((Nat.beq (g.1 a.toNat).1 17 && Nat.beq (g.1 v.toNat).1 3) || (Nat.beq (g.1 a.toNat).1 18 && Nat.beq (g.1 v.toNat).1 6)) with
    | false => rw [hq] at h; cases h
    | true =>
      rw [hq] at h
      rw [Bool.and_eq_true, Bool.or_eq_true, Bool.and_eq_true, Bool.and_eq_true] at hq
      obtain ⟨q1, q2⟩ := hq
      have hv := Nat.ble_eq.mp q1
      change (match ycput (g.1 a.toNat).1 i a (2, v) g with | some g3 => ycgo (pc + 1) lv t g3 | none => none) = some (fr2, g2) at h
      split at h
      · rename_i g3 hg3
        obtain ⟨n, f, j, hc, ha, hj, hn, hij, hg3⟩ := ycput_s hg3
        obtain ⟨ca, cv, C, hca, hcv, h17, hC⟩ : ∃ (ca cv : Nat) (r : vw_C), (g.1 a.toNat).1 = ca ∧ (g.1 v.toNat).1 = cv ∧ 17 ≤ ca ∧ (cv < 14 ∧ cl[cv]? = some r ∧ (yctys tc)[ca - 14]? = some (tc ca, .object r.1)) := by
          obtain ⟨⟨T1, N1, e1⟩, ⟨T2, N2, e2⟩⟩ := hcl
          rcases q2 with ⟨q3, q4⟩ | ⟨q3, q4⟩
          · exact ⟨17, 3, _, Nat.eq_of_beq_eq_true q3, Nat.eq_of_beq_eq_true q4, by decide, by decide, e1, rfl⟩
          · exact ⟨18, 6, _, Nat.eq_of_beq_eq_true q3, Nat.eq_of_beq_eq_true q4, by decide, by decide, e2, rfl⟩
        obtain ⟨hc14, hclv, hty⟩ := hC
        rw [hca] at hc hg3
        subst hg3
        have hgo := ycgo_s h hk
        intro H locs ls hP hD hS hm hl
        have he := ycws_arr (ad := ad) (oa := oa) (tc := tc) hc ha (by omega)
        rw [ycrow_r h17] at he
        obtain ⟨cv9, nv, fv⟩ : ycC := g.1 v.toNat
        have hev : ∃ vs, (ycws ad oa tc g.1 g.2.1)[v.toNat]? = some (ad v.toNat, .inr (cv, vs)) := by
          generalize hx : g.1 v.toNat = x at hcv
          obtain ⟨x1, x2, x3⟩ := x
          change x1 = cv at hcv
          subst hcv
          exact ⟨_, ycws_obj hx hv hc14⟩
        obtain ⟨vs, hev⟩ := hev
        show W p l e R s m args below meth c H locs _ _ Q (F0 m pc ls (Value.ref (ad v.toNat) :: Value.int (Int32.ofInt i) :: Value.ref (ad a.toNat) :: t.map (ycv ad oa)))
        rw [hij]
        have hS0 : va_S A H H locs := ⟨Nat.le_refl _, fun _ _ _ => rfl, hS.2.2⟩
        refine va_astq hexec hb hK hP hD hS0 a.toNat (ca - 14) v.toNat cv he hty hev hclv (vp_in_nI hj hn) hdg (fun H1 locs1 hP1 hD1 hS1 => ?_)
        have es : (ycws ad oa tc g.1 g.2.1).set a.toNat (ad a.toNat, .inl (tc ca, n, ycrow ad ca (ycup f j (2, v)))) = ycws ad oa tc (ycup g.1 a.toNat (ca, n, ycup f j (2, v))) g.2.1 := ycws_arr_set ha (by omega)
        have eu : (va_up (fun q => ycro ad (f q)) (nI j).toNatClampNeg (some (ad v.toNat))) = fun q => ycro ad (ycup f j (2, v) q) := by
          rw [nI_clamp (by omega)]
          funext q
          by_cases h8 : q = j
          · subst h8
            simp [va_up, ycup, ycro]
          · simp [va_up, ycup, h8]
        rw [ycrow_r h17] at es
        rw [eu, es] at hP1 hD1
        exact hgo H1 locs1 ls hP1 hD1 (ycS_trans hS hS1) (fun hm2 => ⟨(hm hm2).1, Nat.le_trans (hm hm2).2 hS1.1⟩) hl
      · cases h
  · cases h
end YC5
