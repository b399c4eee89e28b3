noncomputable section YT5
/-! SYMBOLIC RUNS: switches, arrays, fields; a step -/
variable {T : ycT} {r : Nat → Int} {F : xF}
def xtsw (d lo hi : Int) (offs : Array Int) (F : xF) (pc : Nat) (lv : List (Nat × xV)) (st : List xV) (g : xHp) (k : xK) : Bool := match st with
  | (0, e) :: t => xin32 F e && (xlt F e lo).all (fun q => bif q.1 then xjmp q.2 pc d lv t g k else (xlt q.2 e (hi + 1)).all (fun q2 => bif q2.1 then xenum q2.2 e (fun F3 v => match offs[(v - lo).toNat]? with
      | some off => xjmp F3 pc off lv t g k
      | none => false) else xjmp q2.2 pc d lv t g k))
  | _ => false
theorem xtsw_s (H : xH r F) {d lo hi : Int} {offs : Array Int} {pc : Nat} {lv : List (Nat × xV)} {st : List xV} {g : xHp} : xsnd T r (xtsw d lo hi offs F pc lv st g) (yctsw pc d lo hi offs (xdl r lv) (st.map (xdv r)) (xdH T r g)) := by
  intro k hk
  unfold xtsw at hk
  split at hk
  · rename_i e t
    rw [Bool.and_eq_true] at hk
    have he := xin32_s H hk.1
    obtain ⟨q, hq, hH, hb⟩ := xlt_s H e lo
    have h1 := List.all_eq_true.mp hk.2 q hq
    show ∃ F2 fr2 g2, xH r F2 ∧ k F2 fr2 g2 = true ∧ (bif decide (y32 (xden r e) < lo) || decide (hi < y32 (xden r e)) then ycjmp pc d (xdl r lv) (t.map (xdv r)) (xdH T r g)
      else (match offs[(y32 (xden r e) - lo).toNat]? with
        | some off => ycjmp pc off (xdl r lv) (t.map (xdv r)) (xdH T r g)
        | none => none)) = some (xdF r fr2, xdH T r g2)
    rw [he]
    cases h2 : q.1 with
    | true =>
      rw [h2] at h1
      rw [decide_eq_true (hb.mp h2)]
      exact xjmp_s hH k h1
    | false =>
      rw [h2] at h1
      have n1 : ¬ xden r e < lo := fun z => by rw [hb.mpr z] at h2; cases h2
      obtain ⟨q2, hq2, hH2, hb2⟩ := xlt_s hH e (hi + 1)
      have h3 := List.all_eq_true.mp h1 q2 hq2
      cases h4 : q2.1 with
      | false =>
        rw [h4] at h3
        have n2 : ¬ xden r e < hi + 1 := fun z => by rw [hb2.mpr z] at h4; cases h4
        rw [decide_eq_true (show hi < xden r e by omega), Bool.or_true]
        exact xjmp_s hH2 k h3
      | true =>
        rw [h4] at h3
        have n2 := hb2.mp h4
        rw [decide_eq_false n1, decide_eq_false (show ¬ hi < xden r e by omega)]
        simp only [cond_true] at h3
        obtain ⟨F3, hH3, h5⟩ := xenum_s hH2 h3
        change (match offs[(xden r e - lo).toNat]? with | some off => xjmp F3 pc off lv t g k | none => false) = true at h5
        split at h5
        · exact xjmp_s hH3 k h5
        · cases h5
  · cases hk
/-- within 0 and n -/
def xrng (F : xF) (e : xjE) (n : Nat) : Bool := xbd F e 0 ((n : Int) - 1)
theorem xrng_s (H : xH r F) {e : xjE} {n : Nat} (h : xrng F e n = true) : 0 ≤ xden r e ∧ xden r e < (n : Int) := by
  have := xbd_s H h
  omega
/-- what lies at a place -/
def xrdt (e : xjE) : xT xV → xF → (xF → xV → Bool) → Bool
  | .leaf v, F, k => bif Nat.ble 10 v.1 then (match e with
    | .num j => k F (v.1 - 10, .var (xfb v.2 + 64 * j.toNat))
    | e => k F (v.1 - 10, .pow (.sub (.num (xfb v.2 : Int)) e) 0)) else k F v
  | .branch p l u, F, k => bif Nat.beq p 0 then xenum F e (fun F2 j => k F2 (xsv (xg0 (.branch p l u) j.toNat) j.toNat))
    else (xtest F .eq e (xui u)).all (fun q => (xtwo (xtest F .eq e (xui u)) && xctra q.2) || (bif q.1 then k q.2 (xuv u) else xrdt e l q.2 k))
theorem xrdt_s {e : xjE} (h0 : 0 ≤ xden r e) : ∀ (t : xT xV) {F : xF} {k : xF → xV → Bool}, xH r F → xrdt e t F k = true → ∃ F2 v, xH r F2 ∧ k F2 v = true ∧ xdv r v = xct r t (xden r e).toNat := by
  intro t
  induction t with
  | leaf v =>
    intro F k H h
    unfold xrdt at h
    cases hb : Nat.ble 10 v.1 with
    | true =>
      rw [hb] at h
      have e1 : xct r (.leaf v) (xden r e).toNat = (v.1 - 10, r (xfb v.2 + 64 * (xden r e).toNat)) := by
        show xdv r (bif Nat.ble 10 v.1 then (v.1 - 10, .var (xfb v.2 + 64 * (xden r e).toNat)) else v) = _
        rw [hb]; rfl
      rw [e1]
      simp only [cond_true] at h
      split at h
      · exact ⟨F, _, H, h, rfl⟩
      · exact ⟨F, _, H, h, rfl⟩
    | false =>
      rw [hb] at h
      refine ⟨F, _, H, h, ?_⟩
      show xdv r v = xdv r (bif Nat.ble 10 v.1 then _ else v)
      rw [hb]; rfl
  | branch p l u ihl ihu =>
    intro F k H h
    unfold xrdt at h
    cases hb : Nat.beq p 0 with
    | true =>
      rw [hb] at h
      simp only [cond_true] at h
      obtain ⟨F2, hH2, h1⟩ := xenum_s H h
      refine ⟨F2, _, hH2, h1, ?_⟩
      exact (xct_b (show xisb (.branch p l u) = true from hb) _).symm
    | false =>
      rw [hb] at h
      simp only [cond_false] at h
      obtain ⟨q, hq, hH, hc⟩ := xtest_s H .eq e (xui u)
      have h1 := List.all_eq_true.mp h q hq
      rw [xctra_s hH, Bool.and_false, Bool.false_or] at h1
      have e1 : xct r (.branch p l u) (xden r e).toNat = bif decide (xden r (xui u) = (((xden r e).toNat : Nat) : Int)) then xdv r (xuv u) else xct r l (xden r e).toNat := by
        show (bif Nat.beq p 0 then _ else _) = _
        rw [hb]; rfl
      have e2 : yccd .eq (xden r e) (xden r (xui u)) = decide (xden r e = xden r (xui u)) := rfl
      rw [e2, decide_eq_true_iff] at hc
      cases hq1 : q.1 with
      | true =>
        rw [hq1] at h1
        have := hc.mp hq1
        refine ⟨q.2, _, hH, h1, ?_⟩
        rw [e1, decide_eq_true (by omega)]; rfl
      | false =>
        rw [hq1] at h1
        have n1 : ¬ xden r e = xden r (xui u) := fun z => by rw [hc.mpr z] at hq1; cases hq1
        obtain ⟨F2, v, a1, a2, a3⟩ := ihl hH h1
        refine ⟨F2, v, a1, a2, ?_⟩
        rw [e1, decide_eq_false (by omega), a3]; rfl
/-- an element of an array -/
def xelem (kind : Nat) (F : xF) (i a : xjE) (g : xHp) (k : xF → xV → Bool) : Bool := match a with
  | .num a => (match xg0 g.1 a.toNat with
    | (c, n, _, t) => xin32 F i && (Nat.blt a.toNat g.2.1 && (Nat.beq c kind && (xrng F i n && (Nat.blt n 2147483648 && xfe (xcon F i) (fun i => xrdt i t F k))))))
  | _ => false
theorem xelem_s (H : xH r F) {kind : Nat} {i a : xjE} {g : xHp} {k : xF → xV → Bool} (hk : xelem kind F i a g k = true) : ∃ F2 v, xH r F2 ∧ k F2 v = true ∧ ycelem kind (xden r i) (xden r a) (xdH T r g) = some (xdv r v) := by
  unfold xelem at hk
  split at hk
  · rename_i a
    split at hk
    rename_i c n d t e
    simp only [Bool.and_eq_true, xfe_s] at hk
    obtain ⟨a0, a1, a2, a3, a5, a6⟩ := hk
    have hi := xin32_s H a0
    have hr := xrng_s H a3
    have hc := xcon_s H i
    obtain ⟨F2, v, b1, b2, b3⟩ := xrdt_s (by rw [hc]; exact hr.1) t H a6
    rw [hc] at b3
    refine ⟨F2, v, b1, b2, ?_⟩
    show ycelem kind (xden r i) a (xdH T r g) = _
    unfold ycelem
    rw [xdH_at a1, e]
    show (bif Nat.blt a.toNat g.2.1 && (Nat.beq c kind && (ycin (xden r i) n && Nat.blt n 2147483648)) then some (bif Nat.blt (y32 (xden r i)).toNat n then xct r t (y32 (xden r i)).toNat else _) else none) = _
    unfold ycin
    rw [hi, a1, a2, a5, ycblt (show (xden r i).toNat < n by omega), decide_eq_true hr.1, decide_eq_true hr.2, b3]
    rfl
  · cases hk
def xald (kind t2 : Nat) (F : xF) (pc : Nat) (lv : List (Nat × xV)) (st : List xV) (g : xHp) (k : xK) : Bool := match st with
  | (0, i) :: (2, a) :: t => xelem kind F i a g (fun F2 v => k F2 (pc + 1, lv, (t2, v.2) :: t) g)
  | _ => false
/-- an element of an array that was there before -/
def xoldat (ol : xO) (F : xF) (i a : xjE) (k : xF → xjE → Bool) : Bool := match a with
  | .num a => xin32 F i && xenum F i (fun F2 v => xle 0 v && (xle (v + 1) (xiv F2 (ol a.toNat).1).1 && (xle (xiv F2 (ol a.toNat).1).2 2147483647 && k F2 ((ol a.toNat).2 v.toNat))))
  | _ => false
def xiald (ol : xO) (F : xF) (pc : Nat) (lv : List (Nat × xV)) (st : List xV) (g : xHp) (k : xK) : Bool := match st with
  | (0, i) :: (2, a) :: t => xelem 14 F i a g (fun F2 v => k F2 (pc + 1, lv, (0, v.2) :: t) g)
  | (0, i) :: (4, a) :: t => xoldat ol F i a (fun F2 v => k F2 (pc + 1, lv, (0, v) :: t) g)
  | _ => false
theorem xoldat_s (H : xH r F) {old : Nat → Nat × (Nat → Int)} {ol : xO} (hol : xolok r old ol) {i a : xjE} {k : xF → xjE → Bool} (hk : xoldat ol F i a k = true) : ∃ F2 v, xH r F2 ∧ k F2 v = true ∧ ycoldat old (xden r i) (xden r a) = some (xden r v) := by
  unfold xoldat at hk
  split at hk
  · rename_i a
    rw [Bool.and_eq_true] at hk
    have hi := xin32_s H hk.1
    obtain ⟨F2, hH2, h1⟩ := xenum_s H hk.2
    rw [Bool.and_eq_true, Bool.and_eq_true, Bool.and_eq_true, xle_iff, xle_iff, xle_iff] at h1
    obtain ⟨a1, a2, a3, a4⟩ := h1
    have b1 := xiv_s hH2 (ol a.toNat).1
    have b2 := (hol a.toNat).1
    refine ⟨F2, _, hH2, a4, ?_⟩
    show ycoldat old (xden r i) a = _
    unfold ycoldat
    show (bif ycin (xden r i) (old a.toNat).1 && Nat.blt (old a.toNat).1 2147483648 then some ((old a.toNat).2 (y32 (xden r i)).toNat) else none) = _
    unfold ycin
    rw [hi, decide_eq_true a1, decide_eq_true (show xden r i < ((old a.toNat).1 : Int) by omega), ycblt (show (old a.toNat).1 < 2147483648 by omega), (hol a.toNat).2 _ (by omega)]
    rfl
  · cases hk
theorem xiald_s (H : xH r F) {old : Nat → Nat × (Nat → Int)} {ol : xO} (hol : xolok r old ol) {pc : Nat} {lv : List (Nat × xV)} {st : List xV} {g : xHp} : xsnd T r (xiald ol F pc lv st g) (ycald old pc (xdl r lv) (st.map (xdv r)) (xdH T r g)) := by
  intro k hk
  unfold xiald at hk
  split at hk
  · rename_i i a t
    obtain ⟨F2, v, h1, h2, h3⟩ := xelem_s (T := T) H hk
    refine ⟨F2, _, _, h1, h2, ?_⟩
    show (match ycelem 14 (xden r i) (xden r a) (xdH T r g) with | some v => ycgo (pc + 1) (xdl r lv) ((0, v.2) :: t.map (xdv r)) (xdH T r g) | none => none) = _
    rw [h3]; rfl
  · rename_i i a t
    obtain ⟨F2, v, h1, h2, h3⟩ := xoldat_s H hol hk
    refine ⟨F2, _, _, h1, h2, ?_⟩
    show (match ycoldat old (xden r i) (xden r a) with | some v => ycgo (pc + 1) (xdl r lv) ((0, v) :: t.map (xdv r)) (xdH T r g) | none => none) = _
    rw [h3]; rfl
  · cases hk
theorem xbald_s (H : xH r F) {pc : Nat} {lv : List (Nat × xV)} {st : List xV} {g : xHp} : xsnd T r (xald 16 0 F pc lv st g) (ycbald pc (xdl r lv) (st.map (xdv r)) (xdH T r g)) := by
  intro k hk
  unfold xald at hk
  split at hk
  · rename_i i a t
    obtain ⟨F2, v, h1, h2, h3⟩ := xelem_s (T := T) H hk
    refine ⟨F2, _, _, h1, h2, ?_⟩
    show (match ycelem 16 (xden r i) (xden r a) (xdH T r g) with | some v => ycgo (pc + 1) (xdl r lv) ((0, v.2) :: t.map (xdv r)) (xdH T r g) | none => none) = _
    rw [h3]; rfl
  · cases hk
theorem xlald_s (H : xH r F) {pc : Nat} {lv : List (Nat × xV)} {st : List xV} {g : xHp} : xsnd T r (xald 15 1 F pc lv st g) (yclald pc (xdl r lv) (st.map (xdv r)) (xdH T r g)) := by
  intro k hk
  unfold xald at hk
  split at hk
  · rename_i i a t
    obtain ⟨F2, v, h1, h2, h3⟩ := xelem_s (T := T) H hk
    refine ⟨F2, _, _, h1, h2, ?_⟩
    show (match ycelem 15 (xden r i) (xden r a) (xdH T r g) with | some v => ycgo (pc + 1) (xdl r lv) ((1, v.2) :: t.map (xdv r)) (xdH T r g) | none => none) = _
    rw [h3]; rfl
  · cases hk
def xaald (F : xF) (pc : Nat) (lv : List (Nat × xV)) (st : List xV) (g : xHp) (k : xK) : Bool := match st with
  | (0, i) :: (2, .num a) :: t => Nat.blt a.toNat g.2.1 && ((Nat.ble 17 (xg0 g.1 a.toNat).1 && Nat.ble (xg0 g.1 a.toNat).1 20) && xelem (xg0 g.1 a.toNat).1 F i (.num a) g (fun F2 v => (Nat.beq v.1 2 || Nat.beq v.1 3) && k F2 (pc + 1, lv, v :: t) g))
  | _ => false
theorem xaald_s (H : xH r F) {pc : Nat} {lv : List (Nat × xV)} {st : List xV} {g : xHp} : xsnd T r (xaald F pc lv st g) (ycaald pc (xdl r lv) (st.map (xdv r)) (xdH T r g)) := by
  intro k hk
  unfold xaald at hk
  split at hk
  · rename_i i a t
    rw [Bool.and_eq_true, Bool.and_eq_true] at hk
    obtain ⟨F2, v, h1, h2, h3⟩ := xelem_s (T := T) H hk.2.2
    rw [Bool.and_eq_true] at h2
    refine ⟨F2, _, _, h1, h2.2, ?_⟩
    have e : ((xdH T r g).1 a.toNat).1 = (xg0 g.1 a.toNat).1 := by rw [xdH_at hk.1]; rfl
    show (bif Nat.ble 17 ((xdH T r g).1 a.toNat).1 && Nat.ble ((xdH T r g).1 a.toNat).1 20 then (match ycelem ((xdH T r g).1 a.toNat).1 (xden r i) a (xdH T r g) with
      | some v => bif Nat.beq v.1 2 || Nat.beq v.1 3 then ycgo (pc + 1) (xdl r lv) (v :: t.map (xdv r)) (xdH T r g) else none
      | none => none) else none) = _
    have h3 : ycelem (xg0 g.1 a.toNat).1 (xden r i) a (xdH T r g) = some (xdv r v) := h3
    rw [e, hk.2.1, h3]
    show (bif Nat.beq v.1 2 || Nat.beq v.1 3 then _ else none) = _
    rw [h2.1]; rfl
  · cases hk
/-- a slot of an array written -/
def xput (kind : Nat) (F : xF) (i a : xjE) (v : xV) (g : xHp) (k : xHp → Bool) : Bool := match a with
  | .num a => (xin32 F i && (Nat.beq (xg0 g.1 a.toNat).1 kind && (xrng F i (xg0 g.1 a.toNat).2.1 && (Nat.blt (xg0 g.1 a.toNat).2.1 2147483648 && Nat.blt a.toNat g.2.1)))) && xfe (xcon F i) (fun i => match i with
    | .num w => xwr g a.toNat w.toNat v k
    | i => Nat.blt v.1 10 && xwrs g a.toNat i v k)
  | _ => false
theorem xput_s (H : xH r F) {kind : Nat} {i a : xjE} {v : xV} {g : xHp} {k : xHp → Bool} (hk : xput kind F i a v g k = true) : ∃ g2, k g2 = true ∧ ycput kind (xden r i) (xden r a) (xdv r v) (xdH T r g) = some (xdH T r g2) := by
  unfold xput at hk
  split at hk
  · rename_i a
    rw [Bool.and_eq_true, xfe_s] at hk
    obtain ⟨hq, h6⟩ := hk
    simp only [Bool.and_eq_true] at hq
    obtain ⟨a0, a1, a2, a3, a4⟩ := hq
    have hi := xin32_s H a0
    have hr := xrng_s H a2
    have hc := xcon_s H i
    have hs : ∃ g2, k g2 = true ∧ xdH T r g2 = (ycup (xdH T r g).1 a.toNat ((xdC T r (xg0 g.1 a.toNat)).1, (xdC T r (xg0 g.1 a.toNat)).2.1, ycup (xdC T r (xg0 g.1 a.toNat)).2.2 (xden r i).toNat (xdv r v)), (xdH T r g).2) := by
      split at h6
      · rename_i w e
        obtain ⟨g2, b1, b2⟩ := xwr_s (T := T) (r := r) h6
        rw [e] at hc
        have hc : w = xden r i := hc
        rw [hc] at b2
        exact ⟨g2, b1, b2⟩
      · rw [Bool.and_eq_true] at h6
        obtain ⟨g2, b1, b2⟩ := xwrs_s (T := T) (r := r) h6.2 (by rw [hc]; exact hr.1) (by rw [hc]; exact hr.2)
        rw [hc] at b2
        exact ⟨g2, b1, b2⟩
    obtain ⟨g2, b1, b2⟩ := hs
    refine ⟨g2, b1, ?_⟩
    rw [b2]
    show ycput kind (xden r i) a (xdv r v) (xdH T r g) = _
    unfold ycput
    rw [xdH_at a4]
    show (bif Nat.blt a.toNat g.2.1 && (Nat.beq (xg0 g.1 a.toNat).1 kind && (ycin (xden r i) (xg0 g.1 a.toNat).2.1 && Nat.blt (xg0 g.1 a.toNat).2.1 2147483648)) then some (ycup (xdH T r g).1 a.toNat ((xg0 g.1 a.toNat).1, (xg0 g.1 a.toNat).2.1, ycup (xdC T r (xg0 g.1 a.toNat)).2.2 (y32 (xden r i)).toNat (xdv r v)), (xdH T r g).2) else none) = _
    unfold ycin
    rw [hi, a1, a3, a4, decide_eq_true hr.1, decide_eq_true hr.2]
    rfl
  · cases hk
/-- 0 or 1 -/
def xbit (F : xF) (e : xjE) : Bool := xle 0 (xiv F e).1 && xle (xiv F e).2 1
theorem xbit_s (H : xH r F) {e : xjE} (h : xbit F e = true) : (decide (xden r e = 0) || decide (xden r e = 1)) = true := by
  unfold xbit at h
  rw [Bool.and_eq_true, xle_iff, xle_iff] at h
  have := xiv_s H e
  rw [Bool.or_eq_true, decide_eq_true_iff, decide_eq_true_iff]
  omega
def xast (kind : Nat) (F : xF) (pc : Nat) (lv : List (Nat × xV)) (st : List xV) (g : xHp) (k : xK) : Bool := match st with
  | (n, v) :: (0, i) :: (2, a) :: t => (bif Nat.beq kind 15 then Nat.beq n 1 else Nat.beq n 0) && ((bif Nat.beq kind 16 then xbit F v else true) && xfe v (fun v => xput kind F i a (n, v) g (fun g2 => k F (pc + 1, lv, t) g2)))
  | _ => false
theorem xast_s (H : xH r F) {kind pc : Nat} {lv : List (Nat × xV)} {st : List xV} {g : xHp} : xsnd T r (xast kind F pc lv st g) (ycast kind pc (xdl r lv) (st.map (xdv r)) (xdH T r g)) := by
  intro k hk
  unfold xast at hk
  split at hk
  · rename_i n v i a t
    rw [Bool.and_eq_true, Bool.and_eq_true, xfe_s] at hk
    obtain ⟨g2, h2, h3⟩ := xput_s (T := T) H hk.2.2
    refine ⟨F, _, _, H, h2, ?_⟩
    show (bif (bif Nat.beq kind 15 then Nat.beq n 1 else Nat.beq n 0) && (bif Nat.beq kind 16 then decide (xden r v = 0) || decide (xden r v = 1) else true) then
      (match ycput kind (xden r i) (xden r a) (n, xden r v) (xdH T r g) with | some g3 => ycgo (pc + 1) (xdl r lv) (t.map (xdv r)) g3 | none => none) else none) = _
    have h3 : ycput kind (xden r i) (xden r a) (n, xden r v) (xdH T r g) = some (xdH T r g2) := h3
    have h4 : (bif Nat.beq kind 16 then decide (xden r v = 0) || decide (xden r v = 1) else true) = true := by
      cases hb : Nat.beq kind 16 with
      | true => have := hk.2.1; rw [hb] at this; exact xbit_s H this
      | false => rfl
    rw [hk.1, h3, h4]; rfl
  · cases hk
def xaast (F : xF) (pc : Nat) (lv : List (Nat × xV)) (st : List xV) (g : xHp) (k : xK) : Bool := match st with
  | (2, .num v) :: (0, i) :: (2, .num a) :: t => Nat.blt a.toNat g.2.1 && (Nat.blt v.toNat g.2.1 && (((Nat.beq (xg0 g.1 a.toNat).1 17 && Nat.beq (xg0 g.1 v.toNat).1 3) || (Nat.beq (xg0 g.1 a.toNat).1 18 && Nat.beq (xg0 g.1 v.toNat).1 6)) &&
      xput (xg0 g.1 a.toNat).1 F i (.num a) (2, .num v) g (fun g2 => k F (pc + 1, lv, t) g2)))
  | _ => false
theorem xaast_s (H : xH r F) {pc : Nat} {lv : List (Nat × xV)} {st : List xV} {g : xHp} : xsnd T r (xaast F pc lv st g) (ycaast pc (xdl r lv) (st.map (xdv r)) (xdH T r g)) := by
  intro k hk
  unfold xaast at hk
  split at hk
  · rename_i v i a t
    rw [Bool.and_eq_true, Bool.and_eq_true, Bool.and_eq_true] at hk
    obtain ⟨g2, h2, h3⟩ := xput_s (T := T) H hk.2.2.2
    refine ⟨F, _, _, H, h2, ?_⟩
    have e : ((xdH T r g).1 a.toNat).1 = (xg0 g.1 a.toNat).1 := by rw [xdH_at hk.1]; rfl
    have e2 : ((xdH T r g).1 v.toNat).1 = (xg0 g.1 v.toNat).1 := by rw [xdH_at hk.2.1]; rfl
    show (bif Nat.blt v.toNat g.2.1 && ((Nat.beq ((xdH T r g).1 a.toNat).1 17 && Nat.beq ((xdH T r g).1 v.toNat).1 3) || (Nat.beq ((xdH T r g).1 a.toNat).1 18 && Nat.beq ((xdH T r g).1 v.toNat).1 6)) then
      (match ycput ((xdH T r g).1 a.toNat).1 (xden r i) a (2, v) (xdH T r g) with | some g3 => ycgo (pc + 1) (xdl r lv) (t.map (xdv r)) g3 | none => none) else none) = _
    have h3 : ycput (xg0 g.1 a.toNat).1 (xden r i) a (2, v) (xdH T r g) = some (xdH T r g2) := h3
    rw [e, e2, hk.2.1, hk.2.2.1, h3]; rfl
  · cases hk
def xalen (ol : xO) (F : xF) (pc : Nat) (lv : List (Nat × xV)) (st : List xV) (g : xHp) (k : xK) : Bool := match st with
  | (2, .num a) :: t => (match xg0 g.1 a.toNat with
    | (c, n, _) => Nat.blt a.toNat g.2.1 && ((Nat.ble 14 c && (Nat.ble c 20 && Nat.blt n 2147483648)) && k F (pc + 1, lv, (0, .num (n : Int)) :: t) g))
  | (4, .num a) :: t => Nat.blt a.toNat 6 && (xle (xiv F (ol a.toNat).1).2 2147483647 && k F (pc + 1, lv, (0, (ol a.toNat).1) :: t) g)
  | _ => false
theorem xalen_s (H : xH r F) {old : Nat → Nat × (Nat → Int)} {ol : xO} (hol : xolok r old ol) {pc : Nat} {lv : List (Nat × xV)} {st : List xV} {g : xHp} : xsnd T r (xalen ol F pc lv st g) (ycalen old pc (xdl r lv) (st.map (xdv r)) (xdH T r g)) := by
  intro k hk
  unfold xalen at hk
  split at hk
  · rename_i a t
    split at hk
    rename_i c n d e
    rw [Bool.and_eq_true, Bool.and_eq_true] at hk
    refine ⟨F, _, _, H, hk.2.2, ?_⟩
    show (match (xdH T r g).1 a.toNat with
      | (k, n, _) => bif Nat.blt a.toNat g.2.1 && (Nat.ble 14 k && (Nat.ble k 20 && Nat.blt n 2147483648)) then ycgo (pc + 1) (xdl r lv) ((0, (n : Int)) :: t.map (xdv r)) (xdH T r g) else none) = _
    rw [xdH_at hk.1, e]
    show (bif Nat.blt a.toNat g.2.1 && (Nat.ble 14 c && (Nat.ble c 20 && Nat.blt n 2147483648)) then _ else none) = _
    rw [hk.1, hk.2.1]; rfl
  · rename_i a t
    rw [Bool.and_eq_true, Bool.and_eq_true, xle_iff] at hk
    refine ⟨F, _, _, H, hk.2.2, ?_⟩
    have b1 := xiv_s H (ol a.toNat).1
    have b2 := (hol a.toNat).1
    show (bif Nat.blt a.toNat 6 && Nat.blt (old a.toNat).1 2147483648 then ycgo (pc + 1) (xdl r lv) ((0, ((old a.toNat).1 : Int)) :: t.map (xdv r)) (xdH T r g) else none) = some ((pc + 1, xdl r lv, (0, xden r (ol a.toNat).1) :: t.map (xdv r)), _)
    rw [hk.1, ycblt (show (old a.toNat).1 < 2147483648 by omega), b2]; rfl
  · cases hk
/-- a cell by its number, if need be one by one: a number and one unknown some times -/
def xenr (F : xF) (e : xjE) (k : xF → Int → Bool) : Bool := match e with
  | .num a => k F a
  | e => (match xfz (xlnf 1 e ([], 0)).1 with
    | [q] => xenum F q.1 (fun F2 v => xfi (q.2 * v + (xlnf 1 e ([], 0)).2) (fun a => k F2 a))
    | _ => false)
theorem xenr_s (H : xH r F) {e : xjE} {k : xF → Int → Bool} (hk : xenr F e k = true) : ∃ F2, xH r F2 ∧ k F2 (xden r e) = true := by
  unfold xenr at hk
  split at hk
  · exact ⟨F, H, hk⟩
  · split at hk
    · rename_i q hq
      obtain ⟨F2, h1, h2⟩ := xenum_s H hk
      rw [xfi_s] at h2
      refine ⟨F2, h1, ?_⟩
      have e0 : xls r (([], 0) : xLf) = 0 := rfl
      have e1 : ∀ e : xjE, xls r (xlnf 1 e ([], 0)) = xden r e := fun e => by rw [xlnf_s, e0]; omega
      have e2 := e1 e
      have e3 : xls1 r (xlnf 1 e ([], 0)).1 + (xlnf 1 e ([], 0)).2 = xden r e := e2
      rw [← xfz_s, hq] at e3
      have e3 : q.2 * xden r q.1 + 0 + (xlnf 1 e ([], 0)).2 = xden r e := e3
      rw [← e3, Int.add_zero]
      exact h2
    · cases hk
def xgetf (x : ycFd) (F : xF) (pc : Nat) (lv : List (Nat × xV)) (st : List xV) (g : xHp) (k : xK) : Bool := match st with
  | (2, e) :: t => xenr F e (fun F a => match xg0 g.1 a.toNat with
    | (c, n, _, f) => Nat.blt a.toNat g.2.1 && ((Nat.beq c x.1 && (Nat.blt x.2.1 n && xisb f)) && xfe (bif Nat.blt (xsv (xg0 f x.2.1) x.2.1).1 2 then xcon F (xsv (xg0 f x.2.1) x.2.1).2 else (xsv (xg0 f x.2.1) x.2.1).2) (fun e => k F (pc + 3, lv, ((xsv (xg0 f x.2.1) x.2.1).1, e) :: t) g)))
  | _ => false
theorem xgetf_s (H : xH r F) {x : ycFd} {pc : Nat} {lv : List (Nat × xV)} {st : List xV} {g : xHp} : xsnd T r (xgetf x F pc lv st g) (ycgetf x pc (xdl r lv) (st.map (xdv r)) (xdH T r g)) := by
  intro k hk
  unfold xgetf at hk
  split at hk
  · rename_i e0 t
    obtain ⟨F2, H2, hk⟩ := xenr_s H hk
    split at hk
    rename_i c n d f e
    rw [Bool.and_eq_true, Bool.and_eq_true, xfe_s] at hk
    refine ⟨F2, _, _, H2, hk.2.2, ?_⟩
    have h2 := hk.2.1
    rw [Bool.and_eq_true, Bool.and_eq_true] at h2
    have hv : xdv r ((xsv (xg0 f x.2.1) x.2.1).1, bif Nat.blt (xsv (xg0 f x.2.1) x.2.1).1 2 then xcon F2 (xsv (xg0 f x.2.1) x.2.1).2 else (xsv (xg0 f x.2.1) x.2.1).2) = xdv r (xsv (xg0 f x.2.1) x.2.1) := by
      show (_, xden r (bif _ then _ else _)) = (_, xden r _)
      cases Nat.blt (xsv (xg0 f x.2.1) x.2.1).1 2 with
      | true => rw [cond_true, xcon_s H2]
      | false => rfl
    show (match (xdH T r g).1 (xden r e0).toNat with
      | (c, n, f) => bif Nat.blt (xden r e0).toNat g.2.1 && (Nat.beq c x.1 && Nat.blt x.2.1 n) then ycgo (pc + 3) (xdl r lv) (f x.2.1 :: t.map (xdv r)) (xdH T r g) else none) = _
    rw [xdH_at hk.1, e]
    show (bif Nat.blt (xden r e0).toNat g.2.1 && (Nat.beq c x.1 && Nat.blt x.2.1 n) then ycgo (pc + 3) (xdl r lv) ((bif Nat.blt x.2.1 n then xct r f x.2.1 else _) :: t.map (xdv r)) (xdH T r g) else none) = _
    rw [hk.1, h2.1, h2.2.1, xct_b h2.2.2, ← hv]; rfl
  · cases hk
def xfit (F : xF) (k : Nat) (v : xV) : Bool := match k, v with
  | 0, (0, _) => true
  | 1, (0, y) => xbit F y
  | 2, (1, _) => true
  | 3, (2, _) => true
  | 3, (3, _) => true
  | _, _ => false
theorem xfit_s (H : xH r F) {k : Nat} {v : xV} (h : xfit F k v = true) : ycfit k (xdv r v) = true := by
  unfold xfit at h
  split at h
  · rfl
  · exact xbit_s H h
  · rfl
  · rfl
  · rfl
  · cases h
def xputf (x : ycFd) (ini : Bool) (F : xF) (pc : Nat) (lv : List (Nat × xV)) (st : List xV) (g : xHp) (k : xK) : Bool := match st with
  | v :: (2, .num a) :: t => Nat.blt a.toNat g.2.1 && ((Nat.beq (xg0 g.1 a.toNat).1 x.1 && (Nat.blt x.2.1 (xg0 g.1 a.toNat).2.1 && (bif x.2.2.2.1 then ini && !x.2.2.2.2 else true))) && (xfit F x.2.2.1 v && xfe v.2 (fun e => xwr g a.toNat x.2.1 (v.1, e) (fun g2 => k F (pc + 3, lv, t) g2))))
  | _ => false
theorem xputf_s (H : xH r F) {x : ycFd} {ini : Bool} {pc : Nat} {lv : List (Nat × xV)} {st : List xV} {g : xHp} : xsnd T r (xputf x ini F pc lv st g) (ycputf x ini pc (xdl r lv) (st.map (xdv r)) (xdH T r g)) := by
  intro k hk
  unfold xputf at hk
  split at hk
  · rename_i v a t
    simp only [Bool.and_eq_true, xfe_s] at hk
    obtain ⟨g2, b1, b2⟩ := xwr_s (T := T) (r := r) hk.2.2.2
    refine ⟨F, _, _, H, b1, ?_⟩
    have h2 := hk.2.1
    rw [b2]
    show (match (xdH T r g).1 a.toNat with
      | (c, n, f) => bif Nat.blt a.toNat g.2.1 && (Nat.beq c x.1 && (Nat.blt x.2.1 n && (ycfit x.2.2.1 (xdv r v) && (bif x.2.2.2.1 then ini && !x.2.2.2.2 else true)))) then
        ycgo (pc + 3) (xdl r lv) (t.map (xdv r)) (ycup (xdH T r g).1 a.toNat (c, n, ycup f x.2.1 (xdv r v)), (xdH T r g).2) else none) = _
    rw [xdH_at hk.1]
    show (bif Nat.blt a.toNat g.2.1 && (Nat.beq (xg0 g.1 a.toNat).1 x.1 && (Nat.blt x.2.1 (xg0 g.1 a.toNat).2.1 && (ycfit x.2.2.1 (xdv r v) && (bif x.2.2.2.1 then ini && !x.2.2.2.2 else true)))) then _ else none) = _
    rw [hk.1, h2.1, h2.2.1, h2.2.2, xfit_s H hk.2.2.1]; rfl
  · cases hk
end YT5
