noncomputable section EZ5
/-! E2: switches, arrays, fields -/
variable {Q : ezR → Prop} {T : ycT} {r : ezR} {F : xF}
def eztsw (d lo hi : Int) (offs : Array Int) (F : xF) (pc : Nat) (lv : List (Nat × xV)) (st : List xV) (g : ezHp) (k : ezK_) : Bool := match st with
  | (0, e) :: t => ezin32 F e && (ezlt F e lo).all (fun q => bif q.1 then ezjmp q.2 pc d lv t g k else (ezlt q.2 e (hi + 1)).all (fun q2 => bif q2.1 then ezenum q2.2 e (fun F3 v => match offs[(v - lo).toNat]? with
      | some off => ezjmp F3 pc off lv t g k
      | none => false) else ezjmp q2.2 pc d lv t g k))
  | _ => false
theorem eztsw_s (H : ezH Q r F) {d lo hi : Int} {offs : Array Int} {pc : Nat} {lv : List (Nat × xV)} {st : List xV} {g : ezHp} : ezsnd T Q r (eztsw d lo hi offs F pc lv st g) (yctsw pc d lo hi offs (ezdl r lv) (st.map (ezdv r)) (ezhp T r g)) := by
  intro k hk
  unfold eztsw at hk
  split at hk
  · rename_i e t
    rw [Bool.and_eq_true] at hk
    have he := ezin32_s H hk.1
    obtain ⟨q, hq, hH, hb⟩ := ezlt_s H e lo
    have h1 := List.all_eq_true.mp hk.2 q hq
    show ∃ F2 fr2 g2, ezH Q r F2 ∧ k F2 fr2 g2 = true ∧ (bif decide (y32 (ezden r e) < lo) || decide (hi < y32 (ezden r e)) then ycjmp pc d (ezdl r lv) (t.map (ezdv r)) (ezhp T r g)
      else (match offs[(y32 (ezden r e) - lo).toNat]? with
        | some off => ycjmp pc off (ezdl r lv) (t.map (ezdv r)) (ezhp T r g)
        | none => none)) = some (ezdF r fr2, ezhp T r g2)
    rw [he]
    cases h2 : q.1 with
    | true =>
      rw [h2] at h1
      rw [decide_eq_true (hb.mp h2)]
      exact ezjmp_s hH k h1
    | false =>
      rw [h2] at h1
      have n1 : ¬ ezden r e < lo := fun z => by rw [hb.mpr z] at h2; cases h2
      obtain ⟨q2, hq2, hH2, hb2⟩ := ezlt_s hH e (hi + 1)
      have h3 := List.all_eq_true.mp h1 q2 hq2
      cases h4 : q2.1 with
      | false =>
        rw [h4] at h3
        have n2 : ¬ ezden r e < hi + 1 := fun z => by rw [hb2.mpr z] at h4; cases h4
        rw [decide_eq_true (show hi < ezden r e by omega), Bool.or_true]
        exact ezjmp_s hH2 k h3
      | true =>
        rw [h4] at h3
        have n2 := hb2.mp h4
        rw [decide_eq_false n1, decide_eq_false (show ¬ hi < ezden r e by omega)]
        simp only [cond_true] at h3
        obtain ⟨F3, hH3, h5⟩ := ezenum_s hH2 h3
        change (match offs[(ezden r e - lo).toNat]? with | some off => ezjmp F3 pc off lv t g k | none => false) = true at h5
        split at h5
        · exact ezjmp_s hH3 k h5
        · cases h5
  · cases hk
/-- 0 or 1 -/
def ezbit (F : xF) (e : xjE) : Bool := xle 0 (eziv F e).1 && xle (eziv F e).2 1
theorem ezbit_s (H : ezH Q r F) {e : xjE} (h : ezbit F e = true) : (decide (ezden r e = 0) || decide (ezden r e = 1)) = true := by
  unfold ezbit at h
  rw [Bool.and_eq_true, xle_iff, xle_iff] at h
  have := eziv_s H e
  rw [Bool.or_eq_true, decide_eq_true_iff, decide_eq_true_iff]
  omega
def ezfit (F : xF) (k : Nat) (v : xV) : Bool := match k, v with
  | 0, (0, _) => true
  | 1, (0, y) => ezbit F y
  | 2, (1, _) => true
  | 3, (2, _) => true
  | 3, (3, _) => true
  | _, _ => false
theorem ezfit_s (H : ezH Q r F) {k : Nat} {v : xV} (h : ezfit F k v = true) : ycfit k (ezdv r v) = true := by
  unfold ezfit at h
  split at h
  · rfl
  · exact ezbit_s H h
  · rfl
  · rfl
  · rfl
  · cases h
/-- the places of a lookup switch, one after the other -/
def ezlsw1 (e : xjE) (d : Int) (pc : Nat) (lv : List (Nat × xV)) (st : List xV) (g : ezHp) (k : ezK_) : List (Int × Int) → xF → Bool
  | [], F => ezjmp F pc d lv st g k
  | p :: ps, F => (eztest F .eq e (.num p.1)).all (fun q => (xtwo (eztest F .eq e (.num p.1)) && ezctra q.2) || (bif q.1 then ezjmp q.2 pc p.2 lv st g k else ezlsw1 e d pc lv st g k ps q.2))
theorem ezlsw1_s {e : xjE} {d : Int} {pc : Nat} {lv : List (Nat × xV)} {st : List xV} {g : ezHp} {k : ezK_} : ∀ (ps : List (Int × Int)) {F : xF}, ezH Q r F → ezlsw1 e d pc lv st g k ps F = true → ∃ F2 fr2 g2, ezH Q r F2 ∧ k F2 fr2 g2 = true ∧ ycjmp pc (Op.lookupswitch.offset ps d (ezden r e)) (ezdl r lv) (st.map (ezdv r)) (ezhp T r g) = some (ezdF r fr2, ezhp T r g2) := by
  intro ps
  induction ps with
  | nil => intro F H h; exact ezjmp_s H k h
  | cons p ps ih =>
    intro F H h
    obtain ⟨q, hq, hH, hc⟩ := eztest_s H .eq e (.num p.1)
    have h1 := List.all_eq_true.mp h q hq
    rw [ezctra_s hH, Bool.and_false, Bool.false_or] at h1
    have ec : yccd .eq (ezden r e) (ezden r (.num p.1)) = decide (ezden r e = p.1) := rfl
    rw [ec, decide_eq_true_iff] at hc
    rw [show p = (p.1, p.2) from rfl, Op.lookupswitch.offset_cons]
    cases hq1 : q.1 with
    | true =>
      rw [hq1] at h1
      rw [if_pos (hc.mp hq1).symm]
      exact ezjmp_s hH k h1
    | false =>
      rw [hq1] at h1
      rw [if_neg (fun z => by rw [hc.mpr z.symm] at hq1; cases hq1)]
      exact ih hH h1
def ezlsw (d : Int) (ps : Array (Int × Int)) (F : xF) (pc : Nat) (lv : List (Nat × xV)) (st : List xV) (g : ezHp) (k : ezK_) : Bool := match st with
  | (0, e) :: t => ((ps.toList.zip (ps.toList.drop 1)).all (fun (a, next) => a.1 < next.1) && ezin32 F e) && ezlsw1 e d pc lv t g k ps.toList F
  | _ => false
theorem ezlsw_s (H : ezH Q r F) {d : Int} {ps : Array (Int × Int)} {pc : Nat} {lv : List (Nat × xV)} {st : List xV} {g : ezHp} : ezsnd T Q r (ezlsw d ps F pc lv st g) (yclsw pc d ps (ezdl r lv) (st.map (ezdv r)) (ezhp T r g)) := by
  intro k hk
  unfold ezlsw at hk
  split at hk
  · rename_i e t
    rw [Bool.and_eq_true, Bool.and_eq_true] at hk
    obtain ⟨F2, fr2, g2, a1, a2, a3⟩ := ezlsw1_s (T := T) ps.toList H hk.2
    refine ⟨F2, fr2, g2, a1, a2, ?_⟩
    show (bif (ps.toList.zip (ps.toList.drop 1)).all (fun (a, next) => a.1 < next.1) then ycjmp pc (Op.lookupswitch.offset ps.toList d (y32 (ezden r e))) _ _ _ else none) = _
    rw [hk.1.1, ezin32_s H hk.1.2]
    exact a3
  · cases hk
/-! what was there before: the script, tables -/
def ezol (T : ycT) (r : ezR) : Prop := (∀ k, 1 ≤ k → k ≤ 5 → ytOL T k = ((ezTb k).length, fun j => ((ezTb k)[j]?).getD 0)) ∧ (((ytOL T 0).1 : Nat) : Int) = r.1 0 ∧ ∀ j, j < (ytOL T 0).1 → (ytOL T 0).2 j = r.1 (64 * j + 64)
def ezolat (F : xF) (z : Nat) (i : xjE) (k : xjE → Bool) : Bool := bif Nat.beq z 0 then (ezblo F i 0 && ezblo F (.sub (.var 0) i) 1) && (match i with
    | .num j => k (.var (64 * j.toNat + 64))
    | i => k (.pow (.sub (.num 64) i) 0))
  else Nat.ble z 5 && (ezbd F i 0 (((ezTb z).length : Int) - 1) && (match i with
    | .num j => xfi (((ezTb z)[j.toNat]?).getD 0) (fun v => k (.num v))
    | i => k (.pow (.sub (.natCast z) i) 0)))
theorem ezolat_s (H : ezH Q r F) (hol : ezol T r) {z : Nat} {i : xjE} {k : xjE → Bool} (h : ezolat F z i k = true) : ∃ e, k e = true ∧ ycoldat (ytOL T) (ezden r i) ((z : Nat) : Int) = some (ezden r e) := by
  obtain ⟨o1, o2, o3⟩ := hol
  unfold ezolat at h
  have hz : (((z : Nat) : Int)).toNat = z := by omega
  cases h0 : Nat.beq z 0 with
  | true =>
    rw [h0] at h
    have e0 := Nat.eq_of_beq_eq_true h0
    subst e0
    simp only [cond_true, Bool.and_eq_true] at h
    have b1 := ezblo_s H h.1.1
    have b2 : 1 ≤ r.1 0 - ezden r i := ezblo_s H h.1.2
    have b3 : r.1 0 ≤ 2147483647 := (H.1.1.1 0).2
    have hy : y32 (ezden r i) = ezden r i := y32_id (by omega) (by omega)
    have e1 : ycoldat (ytOL T) (ezden r i) ((0 : Nat) : Int) = some ((ytOL T 0).2 (ezden r i).toNat) := by
      show (bif ycin (ezden r i) (ytOL T 0).1 && Nat.blt (ytOL T 0).1 2147483648 then some ((ytOL T 0).2 (y32 (ezden r i)).toNat) else none) = _
      unfold ycin
      rw [hy, decide_eq_true b1, decide_eq_true (show ezden r i < (((ytOL T 0).1 : Nat) : Int) by omega), ycblt (by omega)]
      rfl
    rw [e1, o3 _ (by omega)]
    split at h
    · rename_i j
      exact ⟨_, h.2, rfl⟩
    · refine ⟨_, h.2, ?_⟩
      show _ = some (r.1 ((64 : Int).toNat + 64 * (ezden r i).toNat))
      rw [show (64 : Int).toNat + 64 * (ezden r i).toNat = 64 * (ezden r i).toNat + 64 from by omega]
  | false =>
    rw [h0] at h
    have e0 := Nat.ne_of_beq_eq_false h0
    simp only [cond_false, Bool.and_eq_true] at h
    have h5 := Nat.ble_eq.mp h.1
    have b := ezbd_s H h.2.1
    have eo := o1 z (by omega) h5
    have hlen : (ezTb z).length ≤ 30 := by
      match z, h5 with
      | 0, _ => decide
      | 1, _ => decide
      | 2, _ => decide
      | 3, _ => decide
      | 4, _ => decide
      | 5, _ => decide
      | k + 6, h => omega
    have hy : y32 (ezden r i) = ezden r i := y32_id (by omega) (by omega)
    have e1 : ycoldat (ytOL T) (ezden r i) ((z : Nat) : Int) = some (((ezTb z)[(ezden r i).toNat]?).getD 0) := by
      unfold ycoldat
      rw [hz, eo]
      show (bif ycin (ezden r i) (ezTb z).length && Nat.blt (ezTb z).length 2147483648 then some (((ezTb z)[(y32 (ezden r i)).toNat]?).getD 0) else none) = _
      unfold ycin
      rw [hy, decide_eq_true b.1, decide_eq_true (show ezden r i < (((ezTb z).length : Nat) : Int) by omega), ycblt (by omega)]
      rfl
    rw [e1]
    have h3 := h.2.2
    split at h3
    · rename_i j
      rw [xfi_s] at h3
      exact ⟨_, h3, rfl⟩
    · exact ⟨_, h3, rfl⟩
/-! elements, fields -/
def ezarr (kind : Nat) (n : Nat) : Bool := Nat.beq (ezK n) kind && Nat.blt (ezL n) 2147483648
theorem ezin_at {T : ycT} {H : Int → Int → Int} {kn : Bool} {kind : Nat} {a i : Int} (a0 : 0 ≤ a) (a1 : a.toNat < 512) (a2 : ezarr kind a.toNat = true) (i0 : 0 ≤ i) (i1 : i.toNat < ezL a.toNat) : ycelem kind i a (ezhp1 T H kn) = some ((ezSl a.toNat i.toNat).1, H a i) := by
  unfold ezarr at a2
  rw [Bool.and_eq_true] at a2
  have a3 := Nat.ble_eq.mp a2.2
  have hy : y32 i = i := y32_id (by omega) (by omega)
  unfold ycelem
  rw [ezhp1_at a1]
  show (bif Nat.blt a.toNat 512 && (Nat.beq (ezK a.toNat) kind && (ycin i (ezL a.toNat) && Nat.blt (ezL a.toNat) 2147483648)) then some (bif Nat.blt (y32 i).toNat (ezL a.toNat) then ((ezSl a.toNat (y32 i).toNat).1, H (a.toNat : Nat) ((y32 i).toNat : Nat)) else _) else none) = _
  unfold ycin
  rw [hy, decide_eq_true i0, decide_eq_true (show i < ((ezL a.toNat : Nat) : Int) by omega), a2.1, a2.2, ycblt a1, ycblt i1, show ((a.toNat : Nat) : Int) = a by omega, show ((i.toNat : Nat) : Int) = i by omega]
  rfl
def ezelem (kind : Nat) (F : xF) (i a : xjE) (g : ezHp) (k : xF → xjE → Bool) : Bool := ezslot F a i (ezarr kind) && ezget F g.1 a i k
theorem ezelem_s (H : ezH Q r F) {kind : Nat} {i a : xjE} {g : ezHp} {k : xF → xjE → Bool} (h : ezelem kind F i a g k = true) : ∃ F2 e t, ezH Q r F2 ∧ k F2 e = true ∧ ycelem kind (ezden r i) (ezden r a) (ezhp T r g) = some (t, ezden r e) := by
  unfold ezelem at h
  rw [Bool.and_eq_true] at h
  obtain ⟨a1, a2, a3, a4, a5, -⟩ := ezslot_s H h.1
  obtain ⟨F2, e, b1, b2, b3⟩ := ezget_s H h.2
  refine ⟨F2, e, (ezSl (ezden r a).toNat (ezden r i).toNat).1, b1, b2, ?_⟩
  rw [b3]
  exact ezin_at a1 a2 a3 a4 a5
def eziald (F : xF) (pc : Nat) (lv : List (Nat × xV)) (st : List xV) (g : ezHp) (k : ezK_) : Bool := match st with
  | (0, i) :: (2, a) :: t => ezelem 14 F i a g (fun F2 e => k F2 (pc + 1, lv, (0, e) :: t) g)
  | (0, i) :: (4, .num z) :: t => xle 0 z && xfn z.toNat (fun z => ezolat F z i (fun e => k F (pc + 1, lv, (0, e) :: t) g))
  | _ => false
theorem eziald_s (H : ezH Q r F) (hol : ezol T r) {pc : Nat} {lv : List (Nat × xV)} {st : List xV} {g : ezHp} : ezsnd T Q r (eziald F pc lv st g) (ycald (ytOL T) pc (ezdl r lv) (st.map (ezdv r)) (ezhp T r g)) := by
  intro k hk
  unfold eziald at hk
  split at hk
  · rename_i i a t
    obtain ⟨F2, e, tg, b1, b2, b3⟩ := ezelem_s (T := T) H hk
    refine ⟨F2, _, _, b1, b2, ?_⟩
    show (match ycelem 14 (ezden r i) (ezden r a) (ezhp T r g) with | some v => _ | none => none) = _
    rw [b3]; rfl
  · rename_i i z t
    rw [Bool.and_eq_true, xle_iff, xfn_s] at hk
    obtain ⟨e, b1, b2⟩ := ezolat_s H hol hk.2
    refine ⟨F, _, _, H, b1, ?_⟩
    show (match ycoldat (ytOL T) (ezden r i) z with | some v => _ | none => none) = _
    rw [show ((z.toNat : Nat) : Int) = z by omega] at b2
    rw [b2]; rfl
  · cases hk
def ezald (kind t2 : Nat) (F : xF) (pc : Nat) (lv : List (Nat × xV)) (st : List xV) (g : ezHp) (k : ezK_) : Bool := match st with
  | (0, i) :: (2, a) :: t => ezelem kind F i a g (fun F2 e => k F2 (pc + 1, lv, (t2, e) :: t) g)
  | _ => false
theorem ezbald_s (H : ezH Q r F) {pc : Nat} {lv : List (Nat × xV)} {st : List xV} {g : ezHp} : ezsnd T Q r (ezald 16 0 F pc lv st g) (ycbald pc (ezdl r lv) (st.map (ezdv r)) (ezhp T r g)) := by
  intro k hk
  unfold ezald at hk
  split at hk
  · rename_i i a t
    obtain ⟨F2, e, tg, b1, b2, b3⟩ := ezelem_s (T := T) H hk
    refine ⟨F2, _, _, b1, b2, ?_⟩
    show (match ycelem 16 (ezden r i) (ezden r a) (ezhp T r g) with | some v => _ | none => none) = _
    rw [b3]; rfl
  · cases hk
theorem ezlald_s (H : ezH Q r F) {pc : Nat} {lv : List (Nat × xV)} {st : List xV} {g : ezHp} : ezsnd T Q r (ezald 15 1 F pc lv st g) (yclald pc (ezdl r lv) (st.map (ezdv r)) (ezhp T r g)) := by
  intro k hk
  unfold ezald at hk
  split at hk
  · rename_i i a t
    obtain ⟨F2, e, tg, b1, b2, b3⟩ := ezelem_s (T := T) H hk
    refine ⟨F2, _, _, b1, b2, ?_⟩
    show (match ycelem 15 (ezden r i) (ezden r a) (ezhp T r g) with | some v => _ | none => none) = _
    rw [b3]; rfl
  · cases hk
def eznn (a b : xjE) : Bool := match a, b with
  | .num a, .num b => !(decide (a = b))
  | _, _ => false
theorem eznn_s {a b : xjE} (h : eznn a b = true) : ezden r a ≠ ezden r b := by
  unfold eznn at h
  split at h
  · rename_i a b
    intro e
    have e : a = b := e
    rw [decide_eq_true e] at h
    cases h
  · cases h
/-- by no write is such a slot met -/
def ezclean (F : xF) (c j : xjE) (L : List ezLy) : Bool := L.all fun w => !(Nat.beq w.1 0) || (ezapart F c w.2.1.1 || eznn j w.2.1.2.1)
theorem ezfix_s (H : ezH Q r F) {c j : xjE} {n : Nat} (a0 : 0 ≤ ezden r c) (a1 : (ezden r c).toNat < 512) (j0 : 0 ≤ ezden r j) (j1 : (ezden r j).toNat < ezL (ezden r c).toNat) (hn : (ezSl (ezden r c).toNat (ezden r j).toNat).2.2.2 = [n]) : ∀ L : List ezLy, ezclean F c j L = true → ezhh r L (ezden r c) (ezden r j) = ((n : Nat) : Int) := by
  have hv : ∀ v, r.2.1 v (ezden r c) (ezden r j) = ((n : Nat) : Int) := by
    intro v
    have t := ((H.1.1.2.2 v).2 (ezden r c).toNat (ezden r j).toNat a1 j1).2.2
    rw [hn, show (((ezden r c).toNat : Nat) : Int) = ezden r c by omega, show (((ezden r j).toNat : Nat) : Int) = ezden r j by omega] at t
    rcases t with t | ⟨m, hm, t⟩
    · cases t
    · rw [List.mem_singleton.mp hm] at t
      exact t
  intro L
  induction L with
  | nil => intro _; exact hv 0
  | cons w L ih =>
    intro h
    unfold ezclean at h
    rw [List.all_cons, Bool.and_eq_true] at h
    have ih := ih h.2
    obtain ⟨t, w, m⟩ := w
    cases t with
    | succ v =>
      show (bif Nat.testBit m _ then _ else _) = _
      cases Nat.testBit m (ezlc (ezden r c) (ezden r j)) with
      | true => exact hv v
      | false => exact ih
    | zero =>
      have h1 : (ezapart F c w.1 || eznn j w.2.1) = true := h.1
      rw [Bool.or_eq_true] at h1
      show ezwr (ezhh r L) (ezden r w.1) (ezden r w.2.1) (ezden r w.2.2) _ _ = _
      rw [ezwr_ne ?_]
      · exact ih
      · intro z
        rcases h1 with h1 | h1
        · exact ezapart_s H h1 z.1
        · exact eznn_s h1 z.2
/-- references that never change: how far from the cell, the same for all that it may be -/
def ezoff (F : xF) (c : xjE) (j : Nat) : Option Int := match ezvals F c with
  | [] => none
  | x :: l => (match (ezSl x.toNat j).2.2.2 with
    | [n] => bif (x :: l).all (fun y => (match (ezSl y.toNat j).2.2.2 with | [m] => decide ((m : Int) - y = (n : Int) - x) | _ => false) && (xle 0 y && (Nat.blt y.toNat 512 && Nat.blt j (ezL y.toNat)))) then some ((n : Int) - x) else none
    | _ => none)
theorem ezoff_s (H : ezH Q r F) {c : xjE} {j : Nat} {off : Int} (h : ezoff F c j = some off) {L : List ezLy} (hc : ezclean F c (.num j) L = true) : ezhh r L (ezden r c) j = ezden r c + off := by
  unfold ezoff at h
  split at h
  · cases h
  · rename_i x l ev
    have p1 := ezvals_s H c (by rw [ev]; simp)
    rw [ev] at p1
    split at h
    · rename_i n en
      revert h
      cases hb : (x :: l).all (fun y => (match (ezSl y.toNat j).2.2.2 with | [m] => decide ((m : Int) - y = (n : Int) - x) | _ => false) && (xle 0 y && (Nat.blt y.toNat 512 && Nat.blt j (ezL y.toNat)))) with
      | false => intro h; cases h
      | true =>
        intro h
        have h := Option.some.inj h
        have q := List.all_eq_true.mp hb _ p1
        simp only [Bool.and_eq_true, xle_iff] at q
        obtain ⟨q1, q2, q3, q4⟩ := q
        split at q1
        · rename_i m em
          have q1 := of_decide_eq_true q1
          have := ezfix_s H (c := c) (j := .num j) (n := m) q2 (Nat.ble_eq.mp q3) (Int.natCast_nonneg j) (Nat.ble_eq.mp q4) em L hc
          have this : ezhh r L (ezden r c) (j : Int) = ((m : Nat) : Int) := this
          rw [this]
          omega
        · cases q1
    · cases h
def ezgetf (x : ycFd) (F : xF) (pc : Nat) (lv : List (Nat × xV)) (st : List xV) (g : ezHp) (k : ezK_) : Bool := match st with
  | (2, c) :: t => (match ezvals F c with
    | y :: _ => ezcell F c (fun n => Nat.beq (ezK n) x.1 && (Nat.blt x.2.1 (ezL n) && Nat.beq (ezSl n x.2.1).1 (ezSl y.toNat x.2.1).1)) &&
      xfn (ezSl y.toNat x.2.1).1 (fun tg => (match ezoff F c x.2.1 with
      | some off => ezclean F c (.num x.2.1) g.1 && xfe (xlinc c off) (fun e => k F (pc + 3, lv, (tg, e) :: t) g)
      | none => ezget F g.1 c (.num x.2.1) (fun F2 e => k F2 (pc + 3, lv, (tg, e) :: t) g)))
    | [] => false)
  | _ => false
theorem ezgetf_s (H : ezH Q r F) {x : ycFd} {pc : Nat} {lv : List (Nat × xV)} {st : List xV} {g : ezHp} : ezsnd T Q r (ezgetf x F pc lv st g) (ycgetf x pc (ezdl r lv) (st.map (ezdv r)) (ezhp T r g)) := by
  intro k hk
  unfold ezgetf at hk
  split at hk
  · rename_i c t
    split at hk
    · rename_i y l ev
      rw [Bool.and_eq_true, xfn_s] at hk
      obtain ⟨a1, a2, a3⟩ := ezcell_s H hk.1
      simp only [Bool.and_eq_true] at a3
      obtain ⟨a3, a4, a5⟩ := a3
      have a5 := Nat.eq_of_beq_eq_true a5
      have key : ∀ v : Int, ezhh r g.1 (ezden r c) x.2.1 = v → ycgetf x pc (ezdl r lv) (((2, c) :: t).map (ezdv r)) (ezhp T r g) = some ((pc + 3, ezdl r lv, ((ezSl y.toNat x.2.1).1, v) :: t.map (ezdv r)), ezhp T r g) := by
        intro v hv
        show (match (ezhp1 T (ezhh r g.1) (r.2.2 && g.2.2)).1 (ezden r c).toNat with
          | (c9, n, f) => bif Nat.blt (ezden r c).toNat 512 && (Nat.beq c9 x.1 && Nat.blt x.2.1 n) then ycgo (pc + 3) (ezdl r lv) (f x.2.1 :: t.map (ezdv r)) (ezhp T r g) else none) = _
        rw [ezhp1_at a2]
        show (bif Nat.blt (ezden r c).toNat 512 && (Nat.beq (ezK (ezden r c).toNat) x.1 && Nat.blt x.2.1 (ezL (ezden r c).toNat)) then ycgo (pc + 3) (ezdl r lv) ((bif Nat.blt x.2.1 (ezL (ezden r c).toNat) then ((ezSl (ezden r c).toNat x.2.1).1, ezhh r g.1 (((ezden r c).toNat : Nat) : Int) x.2.1) else _) :: t.map (ezdv r)) (ezhp T r g) else none) = _
        rw [ycblt a2, a3, a4, a5, show (((ezden r c).toNat : Nat) : Int) = ezden r c by omega, hv]
        rfl
      have hk2 := hk.2
      split at hk2
      · rename_i off eo
        rw [Bool.and_eq_true, xfe_s] at hk2
        refine ⟨F, _, _, H, hk2.2, ?_⟩
        have := ezoff_s H eo hk2.1
        rw [key _ this]
        show _ = some ((pc + 3, ezdl r lv, ((ezSl y.toNat x.2.1).1, ezden r (xlinc c off)) :: t.map (ezdv r)), _)
        rw [ezlinc_s]
      · obtain ⟨F2, e, b1, b2, b3⟩ := ezget_s H hk2
        refine ⟨F2, _, _, b1, b2, ?_⟩
        rw [key _ (show ezhh r g.1 (ezden r c) x.2.1 = ezden r e from b3.symm)]
        rfl
    · cases hk
  · cases hk
/-- arrays of references: how far from the array, how far apart -/
def ezaff (F : xF) (c : xjE) : Option (Int × Int) := match ezvals F c with
  | [] => none
  | x :: l => (match (ezSl x.toNat 0).2.2.2, (ezSl x.toNat 1).2.2.2 with
    | [n], [m] => bif (x :: l).all (fun y => (List.range (ezL y.toNat)).all (fun j => match (ezSl y.toNat j).2.2.2 with | [u] => decide ((u : Int) = y + ((n : Int) - x) + ((m : Int) - n) * j) | _ => false)) then some ((n : Int) - x, (m : Int) - n) else none
    | _, _ => none)
theorem ezaff_s (H : ezH Q r F) {c j : xjE} {o : Int × Int} (h : ezaff F c = some o) {L : List ezLy} (hc : ezclean F c j L = true) (a0 : 0 ≤ ezden r c) (a1 : (ezden r c).toNat < 512) (j0 : 0 ≤ ezden r j) (j1 : (ezden r j).toNat < ezL (ezden r c).toNat) : ezhh r L (ezden r c) (ezden r j) = ezden r c + o.1 + o.2 * ezden r j := by
  unfold ezaff at h
  split at h
  · cases h
  · rename_i x l ev
    have p1 := ezvals_s H c (by rw [ev]; simp)
    rw [ev] at p1
    split at h
    · rename_i n m en em
      revert h
      cases hb : (x :: l).all (fun y => (List.range (ezL y.toNat)).all (fun j => match (ezSl y.toNat j).2.2.2 with | [u] => decide ((u : Int) = y + ((n : Int) - x) + ((m : Int) - n) * j) | _ => false)) with
      | false => intro h; cases h
      | true =>
        intro h
        have h := Option.some.inj h
        subst h
        have q := List.all_eq_true.mp (List.all_eq_true.mp hb _ p1) (ezden r j).toNat (List.mem_range.mpr j1)
        split at q
        · rename_i u eu
          have q := of_decide_eq_true q
          rw [ezfix_s H a0 a1 j0 j1 eu L hc, q, show (((ezden r j).toNat : Nat) : Int) = ezden r j by omega]
        · cases q
    · cases h
/-- a number times a term -/
def ezsc (z : Int) (e : xjE) : xjE := match e with
  | .num v => .num (z * v)
  | e => bif decide (z = 1) then e else .mul (.num z) e
theorem ezsc_s (r : ezR) (z : Int) (e : xjE) : ezden r (ezsc z e) = z * ezden r e := by
  unfold ezsc
  split
  · rfl
  · cases h : decide (z = 1) with
    | true =>
      have := of_decide_eq_true h
      subst this
      show ezden r e = 1 * ezden r e
      omega
    | false => rfl
def ezaald (F : xF) (pc : Nat) (lv : List (Nat × xV)) (st : List xV) (g : ezHp) (k : ezK_) : Bool := match st with
  | (0, i) :: (2, a) :: t => ezcell F a (fun n => Nat.ble 17 (ezK n) && (Nat.ble (ezK n) 20 && Nat.blt (ezL n) 2147483648)) && ((match ezvals F a with | x :: l => ezbd F i 0 (ezmn (fun n => (ezL n : Int)) x l - 1) | [] => false) && (ezclean F a i g.1 &&
      (match ezaff F a with
      | some o => ezcell F a (fun n => (List.range (ezL n)).all fun j => Nat.beq (ezSl n j).1 2) && xfe (xlin (ezsc o.2 i) (xlinc a o.1)) (fun e => k F (pc + 1, lv, (2, e) :: t) g)
      | none => false)))
  | _ => false
theorem ezaald_s (H : ezH Q r F) {pc : Nat} {lv : List (Nat × xV)} {st : List xV} {g : ezHp} : ezsnd T Q r (ezaald F pc lv st g) (ycaald pc (ezdl r lv) (st.map (ezdv r)) (ezhp T r g)) := by
  intro k hk
  unfold ezaald at hk
  split at hk
  · rename_i i a t
    simp only [Bool.and_eq_true] at hk
    obtain ⟨k1, k2, k3, k4⟩ := hk
    obtain ⟨a1, a2, a3⟩ := ezcell_s H k1
    simp only [Bool.and_eq_true] at a3
    obtain ⟨c1, c2, c3⟩ := a3
    split at k2
    · rename_i x l ev
      have b := ezbd_s H k2
      have p1 := ezvals_s H a (by rw [ev]; simp)
      rw [ev] at p1
      have m := ezmn_s (f := fun n => (ezL n : Int)) l x _ p1
      have m : ezmn (fun n => (ezL n : Int)) x l ≤ (ezL (ezden r a).toNat : Int) := m
      split at k4
      · rename_i o eo
        rw [Bool.and_eq_true, xfe_s] at k4
        have t2 := List.all_eq_true.mp (ezcell_s H k4.1).2.2 (ezden r i).toNat (List.mem_range.mpr (by omega))
        have t2 := Nat.eq_of_beq_eq_true t2
        have hv := ezaff_s H eo k3 a1 a2 b.1 (show (ezden r i).toNat < _ by omega)
        refine ⟨F, _, _, H, k4.2, ?_⟩
        have he : ycelem (ezK (ezden r a).toNat) (ezden r i) (ezden r a) (ezhp T r g) = some (2, ezden r (xlin (ezsc o.2 i) (xlinc a o.1))) := by
          have := ezin_at (T := T) (H := ezhh r g.1) (kn := r.2.2 && g.2.2) (kind := ezK (ezden r a).toNat) a1 a2 (by unfold ezarr; rw [Nat.beq_refl, c3]; rfl) b.1 (show (ezden r i).toNat < _ by omega)
          rw [t2, hv] at this
          rw [show ezhp T r g = ezhp1 T (ezhh r g.1) (r.2.2 && g.2.2) from rfl, this, ezlin_s, ezsc_s, ezlinc_s]
          congr 2
          omega
        have hk9 : ((ezhp T r g).1 (ezden r a).toNat).1 = ezK (ezden r a).toNat := by
          show ((ezhp1 T _ _).1 _).1 = _
          rw [ezhp1_at a2]
        show (bif Nat.ble 17 ((ezhp T r g).1 (ezden r a).toNat).1 && Nat.ble ((ezhp T r g).1 (ezden r a).toNat).1 20 then (match ycelem ((ezhp T r g).1 (ezden r a).toNat).1 (ezden r i) (ezden r a) (ezhp T r g) with | some v => _ | none => none) else none) = _
        rw [hk9, c1, c2, he]
        rfl
      · cases k4
    · cases k2
  · cases hk
def ezpush (c j x : xjE) (g : ezHp) : ezHp := ((0, (c, j, x), 0) :: g.1, g.2.1, g.2.2)
def ezast (kind : Nat) (F : xF) (pc : Nat) (lv : List (Nat × xV)) (st : List xV) (g : ezHp) (k : ezK_) : Bool := match st with
  | (t1, x) :: (0, i) :: (2, a) :: t => ((bif Nat.beq kind 15 then Nat.beq t1 1 else Nat.beq t1 0) && (bif Nat.beq kind 16 then ezbit F x else true)) && (ezslot F a i (fun n => ezarr kind n && Nat.beq (ezSl n (ezsj i)).1 t1) && k F (pc + 1, lv, t) (ezpush a i x g))
  | _ => false
theorem ezast_s (H : ezH Q r F) {kind pc : Nat} {lv : List (Nat × xV)} {st : List xV} {g : ezHp} : ezsnd T Q r (ezast kind F pc lv st g) (ycast kind pc (ezdl r lv) (st.map (ezdv r)) (ezhp T r g)) := by
  intro k hk
  unfold ezast at hk
  split at hk
  · rename_i t1 x i a t
    rw [Bool.and_eq_true, Bool.and_eq_true, Bool.and_eq_true] at hk
    obtain ⟨⟨k1, k2⟩, k3, k4⟩ := hk
    obtain ⟨a1, a2, a3, a4, a5, a6⟩ := ezslot_s H k3
    rw [Bool.and_eq_true] at a3
    have t2 := Nat.eq_of_beq_eq_true a3.2
    refine ⟨F, _, _, H, k4, ?_⟩
    have k2' : (bif Nat.beq kind 16 then decide (ezden r x = 0) || decide (ezden r x = 1) else true) = true := by
      cases h16 : Nat.beq kind 16 with
      | true => rw [h16] at k2; exact ezbit_s H k2
      | false => rfl
    have a7 := a3.1
    unfold ezarr at a7
    rw [Bool.and_eq_true] at a7
    have a8 := Nat.ble_eq.mp a7.2
    have hy : y32 (ezden r i) = ezden r i := y32_id (by omega) (by omega)
    have hp : ycput kind (ezden r i) (ezden r a) (t1, ezden r x) (ezhp T r g) = some (ezhp T r (ezpush a i x g)) := by
      unfold ycput
      rw [show ezhp T r g = ezhp1 T (ezhh r g.1) (r.2.2 && g.2.2) from rfl, ezhp1_at a2]
      show (bif Nat.blt (ezden r a).toNat 512 && (Nat.beq (ezK (ezden r a).toNat) kind && (ycin (ezden r i) (ezL (ezden r a).toNat) && Nat.blt (ezL (ezden r a).toNat) 2147483648)) then some ((ycup (ezhp1 T (ezhh r g.1) (r.2.2 && g.2.2)).1 (ezden r a).toNat (ezK (ezden r a).toNat, ezL (ezden r a).toNat, ycup (fun j => bif Nat.blt j (ezL (ezden r a).toNat) then ((ezSl (ezden r a).toNat j).1, ezhh r g.1 (((ezden r a).toNat : Nat) : Int) j) else xdf T (ezK (ezden r a).toNat) j) (y32 (ezden r i)).toNat (t1, ezden r x)), (ezhp1 T (ezhh r g.1) (r.2.2 && g.2.2)).2) : ycH) else none) = _
      unfold ycin
      rw [hy, decide_eq_true a4, decide_eq_true (show ezden r i < ((ezL (ezden r a).toNat : Nat) : Int) by omega), a7.1, a7.2, ycblt a2]
      simp only [Bool.and_self, cond_true]
      have e1 : t1 = (ezSl (ezden r a).toNat (ezden r i).toNat).1 := by rw [a6, t2]
      rw [e1, ezhp1_up a2 a5, show (((ezden r a).toNat : Nat) : Int) = ezden r a by omega, show (((ezden r i).toNat : Nat) : Int) = ezden r i by omega]
      rfl
    show (bif (bif Nat.beq kind 15 then Nat.beq t1 1 else Nat.beq t1 0) && (bif Nat.beq kind 16 then decide (ezden r x = 0) || decide (ezden r x = 1) else true) then (match ycput kind (ezden r i) (ezden r a) (t1, ezden r x) (ezhp T r g) with | some g3 => _ | none => none) else none) = _
    rw [k1, k2', hp]
    rfl
  · cases hk
def ezaast (_ : xF) (_ : Nat) (_ : List (Nat × xV)) (_ : List xV) (_ : ezHp) (_ : ezK_) : Bool := false
theorem ezaast_s {pc : Nat} {lv : List (Nat × xV)} {st : List xV} {g : ezHp} : ezsnd T Q r (ezaast F pc lv st g) (ycaast pc (ezdl r lv) (st.map (ezdv r)) (ezhp T r g)) := fun k hk => by cases hk
def ezalen (F : xF) (pc : Nat) (lv : List (Nat × xV)) (st : List xV) (g : ezHp) (k : ezK_) : Bool := match st with
  | (2, a) :: t => (match ezvals F a with
    | y :: _ => ezcell F a (fun n => Nat.beq (ezL n) (ezL y.toNat) && (Nat.ble 14 (ezK n) && (Nat.ble (ezK n) 20 && Nat.blt (ezL n) 2147483648))) && xfn (ezL y.toNat) (fun n => k F (pc + 1, lv, (0, .num (n : Int)) :: t) g)
    | [] => false)
  | (4, .num z) :: t => xle 0 z && (bif Nat.beq z.toNat 0 then k F (pc + 1, lv, (0, .var 0) :: t) g else Nat.ble z.toNat 5 && xfn (ezTb z.toNat).length (fun n => k F (pc + 1, lv, (0, .num (n : Int)) :: t) g))
  | _ => false
theorem ezalen_s (H : ezH Q r F) (hol : ezol T r) {pc : Nat} {lv : List (Nat × xV)} {st : List xV} {g : ezHp} : ezsnd T Q r (ezalen F pc lv st g) (ycalen (ytOL T) pc (ezdl r lv) (st.map (ezdv r)) (ezhp T r g)) := by
  intro k hk
  unfold ezalen at hk
  split at hk
  · rename_i a t
    split at hk
    · rename_i y l ev
      rw [Bool.and_eq_true, xfn_s] at hk
      obtain ⟨a1, a2, a3⟩ := ezcell_s H hk.1
      simp only [Bool.and_eq_true] at a3
      obtain ⟨b1, b2, b3, b4⟩ := a3
      have b1 := Nat.eq_of_beq_eq_true b1
      refine ⟨F, _, _, H, hk.2, ?_⟩
      show (match (ezhp1 T (ezhh r g.1) (r.2.2 && g.2.2)).1 (ezden r a).toNat with
        | (k9, n, _) => bif Nat.blt (ezden r a).toNat 512 && (Nat.ble 14 k9 && (Nat.ble k9 20 && Nat.blt n 2147483648)) then ycgo (pc + 1) (ezdl r lv) ((0, (n : Int)) :: t.map (ezdv r)) (ezhp T r g) else none) = _
      rw [ezhp1_at a2]
      show (bif Nat.blt (ezden r a).toNat 512 && (Nat.ble 14 (ezK (ezden r a).toNat) && (Nat.ble (ezK (ezden r a).toNat) 20 && Nat.blt (ezL (ezden r a).toNat) 2147483648)) then ycgo (pc + 1) (ezdl r lv) ((0, ((ezL (ezden r a).toNat : Nat) : Int)) :: t.map (ezdv r)) (ezhp T r g) else none) = _
      rw [ycblt a2, b2, b3, b4, b1]
      rfl
    · cases hk
  · rename_i z t
    rw [Bool.and_eq_true, xle_iff] at hk
    obtain ⟨o1, o2, o3⟩ := hol
    have hk2 := hk.2
    cases h0 : Nat.beq z.toNat 0 with
    | true =>
      rw [h0] at hk2
      have e0 := Nat.eq_of_beq_eq_true h0
      refine ⟨F, _, _, H, hk2, ?_⟩
      show (bif Nat.blt z.toNat 6 && Nat.blt (ytOL T z.toNat).1 2147483648 then ycgo (pc + 1) (ezdl r lv) ((0, (((ytOL T z.toNat).1 : Nat) : Int)) :: t.map (ezdv r)) (ezhp T r g) else none) = _
      have b3 : r.1 0 ≤ 2147483647 := (H.1.1.1 0).2
      rw [e0, ycblt (show (ytOL T 0).1 < 2147483648 by omega), o2]
      rfl
    | false =>
      rw [h0] at hk2
      have e0 := Nat.ne_of_beq_eq_false h0
      simp only [cond_false, Bool.and_eq_true, xfn_s] at hk2
      have h5 := Nat.ble_eq.mp hk2.1
      refine ⟨F, _, _, H, hk2.2, ?_⟩
      show (bif Nat.blt z.toNat 6 && Nat.blt (ytOL T z.toNat).1 2147483648 then ycgo (pc + 1) (ezdl r lv) ((0, (((ytOL T z.toNat).1 : Nat) : Int)) :: t.map (ezdv r)) (ezhp T r g) else none) = _
      rw [o1 _ (by omega) h5, ycblt (show z.toNat < 6 by omega)]
      have hlen : (ezTb z.toNat).length < 2147483648 := by
        generalize z.toNat = q at h5
        match q, h5 with
        | 0, _ => decide
        | 1, _ => decide
        | 2, _ => decide
        | 3, _ => decide
        | 4, _ => decide
        | 5, _ => decide
        | k + 6, h => omega
      show (bif true && Nat.blt (ezTb z.toNat).length 2147483648 then _ else none) = _
      rw [ycblt hlen]
      rfl
  · cases hk
def ezputf (x : ycFd) (ini : Bool) (F : xF) (pc : Nat) (lv : List (Nat × xV)) (st : List xV) (g : ezHp) (k : ezK_) : Bool := match st with
  | v :: (2, a) :: t => ((bif x.2.2.2.1 then ini && !x.2.2.2.2 else true) && ezfit F x.2.2.1 v) && (ezcell F a (fun n => Nat.beq (ezK n) x.1 && (Nat.blt x.2.1 (ezL n) && Nat.beq (ezSl n x.2.1).1 v.1)) && k F (pc + 3, lv, t) (ezpush a (.num x.2.1) v.2 g))
  | _ => false
theorem ezputf_s (H : ezH Q r F) {x : ycFd} {ini : Bool} {pc : Nat} {lv : List (Nat × xV)} {st : List xV} {g : ezHp} : ezsnd T Q r (ezputf x ini F pc lv st g) (ycputf x ini pc (ezdl r lv) (st.map (ezdv r)) (ezhp T r g)) := by
  intro k hk
  unfold ezputf at hk
  split at hk
  · rename_i v a t
    rw [Bool.and_eq_true, Bool.and_eq_true, Bool.and_eq_true] at hk
    obtain ⟨⟨k1, k2⟩, k3, k4⟩ := hk
    obtain ⟨a1, a2, a3⟩ := ezcell_s H k3
    simp only [Bool.and_eq_true] at a3
    obtain ⟨b1, b2, b3⟩ := a3
    have b3 := Nat.eq_of_beq_eq_true b3
    refine ⟨F, _, _, H, k4, ?_⟩
    show (match (ezhp1 T (ezhh r g.1) (r.2.2 && g.2.2)).1 (ezden r a).toNat with
      | (c, n, f) => bif Nat.blt (ezden r a).toNat 512 && (Nat.beq c x.1 && (Nat.blt x.2.1 n && (ycfit x.2.2.1 (ezdv r v) && (bif x.2.2.2.1 then ini && !x.2.2.2.2 else true)))) then
        ycgo (pc + 3) (ezdl r lv) (t.map (ezdv r)) (ycup (ezhp1 T (ezhh r g.1) (r.2.2 && g.2.2)).1 (ezden r a).toNat (c, n, ycup f x.2.1 (ezdv r v)), (ezhp1 T (ezhh r g.1) (r.2.2 && g.2.2)).2) else none) = _
    rw [ezhp1_at a2]
    show (bif Nat.blt (ezden r a).toNat 512 && (Nat.beq (ezK (ezden r a).toNat) x.1 && (Nat.blt x.2.1 (ezL (ezden r a).toNat) && (ycfit x.2.2.1 (ezdv r v) && (bif x.2.2.2.1 then ini && !x.2.2.2.2 else true)))) then
        ycgo (pc + 3) (ezdl r lv) (t.map (ezdv r)) ((ycup (ezhp1 T (ezhh r g.1) (r.2.2 && g.2.2)).1 (ezden r a).toNat (ezK (ezden r a).toNat, ezL (ezden r a).toNat, ycup (fun i => bif Nat.blt i (ezL (ezden r a).toNat) then ((ezSl (ezden r a).toNat i).1, ezhh r g.1 (((ezden r a).toNat : Nat) : Int) i) else xdf T (ezK (ezden r a).toNat) i) x.2.1 (v.1, ezden r v.2)), (ezhp1 T (ezhh r g.1) (r.2.2 && g.2.2)).2) : ycH) else none) = _
    rw [ycblt a2, b1, b2, ezfit_s H k2, k1, ← b3, ezhp1_up a2 (Nat.ble_eq.mp b2), show (((ezden r a).toNat : Nat) : Int) = ezden r a by omega]
    rfl
  · cases hk
end EZ5
