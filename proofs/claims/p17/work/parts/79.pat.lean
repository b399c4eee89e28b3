noncomputable section EZ9
/-! E2: patterns and what they come to in a state; ranges kept; what a state speaks of -/
variable {Q : ezR → Prop} {T : ycT} {r s : ezR} {F : xF}
def ezlo (l : List (Nat × xjE)) (i : Nat) : Option xjE := List.rec (motive := fun _ => Option xjE) none (fun q _ ih => bif Nat.beq q.1 i then some q.2 else ih) l
/-- a difference, a product -/
def ezdf (a b : xjE) : xjE := match b with
  | .num z => xlinc a (-z)
  | b => .sub a b
theorem ezdf_s (r : ezR) (a b : xjE) : ezden r (ezdf a b) = ezden r a - ezden r b := by
  unfold ezdf
  split
  · rw [ezlinc_s]; rfl
  · rfl
def ezml (a b : xjE) : xjE := match a with
  | .num z => ezsc z b
  | a => (match b with
    | .num z => ezsc z a
    | b => .mul a b)
theorem ezml_s (r : ezR) (a b : xjE) : ezden r (ezml a b) = ezden r a * ezden r b := by
  unfold ezml
  split
  · rw [ezsc_s]; rfl
  · split
    · rw [ezsc_s, Int.mul_comm]; rfl
    · rfl
/-- an operation, the greater and the smaller told where they are known -/
def ezmm (F : xF) (v : Nat) (a b : xjE) : xjE := bif Nat.beq v 80 then ezmaxs F a b else bif Nat.beq v 96 then ezmins F a b else xbin v a b
theorem ezmm_s (H : ezH Q r F) (v : Nat) (a b : xjE) : ezden r (ezmm F v a b) = xop v (ezden r a) (ezden r b) := by
  unfold ezmm
  cases h : Nat.beq v 80 with
  | true => rw [Nat.eq_of_beq_eq_true h]; exact ezmaxs_s H a b
  | false =>
    simp only [cond_false]
    cases h2 : Nat.beq v 96 with
    | true => rw [Nat.eq_of_beq_eq_true h2]; exact ezmins_s H a b
    | false => exact ezbin_s r v a b
/-! ghosts in a state -/
def ezlq_ (j x y p : xjE) : xjE → xjE
  | .num k => .num k
  | .natCast _ => .num 0
  | .intCast _ => .num 0
  | .var i => (match i with | 0 => j | 1 => x | 2 => y | _ => p)
  | .neg _ => .num 0
  | .add a b => xlin (ezlq_ j x y p a) (ezlq_ j x y p b)
  | .sub a b => ezdf (ezlq_ j x y p a) (ezlq_ j x y p b)
  | .mul a b => ezml (ezlq_ j x y p a) (ezlq_ j x y p b)
  | .pow a k => (match a with
    | .add b c => xbin k (ezlq_ j x y p b) (ezlq_ j x y p c)
    | _ => .num 0)
theorem ezlq_s (r : ezR) (j x y p : xjE) : ∀ t : xjE, ezden r (ezlq_ j x y p t) = ezlf (ezden r j) (ezden r x) (ezden r y) (ezden r p) t
  | .num _ => rfl
  | .natCast _ => rfl
  | .intCast _ => rfl
  | .var i => by
      unfold ezlq_ ezlf
      rcases i with _ | _ | _ | i <;> rfl
  | .neg _ => rfl
  | .add a b => by
      show ezden r (xlin (ezlq_ j x y p a) (ezlq_ j x y p b)) = _
      rw [ezlin_s, ezlq_s r j x y p a, ezlq_s r j x y p b]; rfl
  | .sub a b => by
      show ezden r (ezdf (ezlq_ j x y p a) (ezlq_ j x y p b)) = _
      rw [ezdf_s, ezlq_s r j x y p a, ezlq_s r j x y p b]; rfl
  | .mul a b => by
      show ezden r (ezml (ezlq_ j x y p a) (ezlq_ j x y p b)) = _
      rw [ezml_s, ezlq_s r j x y p a, ezlq_s r j x y p b]; rfl
  | .pow (.add a b) k => by
      show ezden r (xbin k (ezlq_ j x y p a) (ezlq_ j x y p b)) = _
      rw [ezbin_s, ezlq_s r j x y p a, ezlq_s r j x y p b]; rfl
  | .pow (.num _) _ => rfl
  | .pow (.natCast _) _ => rfl
  | .pow (.intCast _) _ => rfl
  | .pow (.var _) _ => rfl
  | .pow (.neg _) _ => rfl
  | .pow (.sub _ _) _ => rfl
  | .pow (.mul _ _) _ => rfl
  | .pow (.pow _ _) _ => rfl
/-- a leaf's worth, within its ends -/
def ezle (F : xF) (e : xjE) (K : xF → xjE → Bool) : Bool := xfe e (fun e => ezbd F e 0 4611686018427387904 && K F e)
def ezbk (j x y p : xjE) : xjE → xF → (xF → xjE → Bool) → Bool
  | .num k, F, K => ezle F (.num k) K
  | .natCast _, _, _ => false
  | .intCast _, _, _ => false
  | .var i, F, K => ezle F (ezlq_ j x y p (.var i)) K
  | .neg _, _, _ => false
  | .add a b, F, K => ezle F (ezlq_ j x y p (.add a b)) K
  | .sub a b, F, K => ezle F (ezlq_ j x y p (.sub a b)) K
  | .mul a b, F, K => ezle F (ezlq_ j x y p (.mul a b)) K
  | .pow a c, F, K => (match a with
    | .mul q w => (match q with
      | .sub a b => (match w with
        | .mul t e => (eztest F (ezcd c) (ezlq_ j x y p a) (ezlq_ j x y p b)).all (fun q => (xtwo (eztest F (ezcd c) (ezlq_ j x y p a) (ezlq_ j x y p b)) && ezctra q.2) || (bif q.1 then ezbk j x y p t q.2 K else ezbk j x y p e q.2 K))
        | _ => false)
      | _ => false)
    | .add a b => ezle F (ezlq_ j x y p (.pow (.add a b) c)) K
    | _ => false)
theorem ezle_s (H : ezH Q r F) {e : xjE} {v : Int} {K : xF → xjE → Bool} (hv : ezden r e = v) (h : ezle F e K = true) : ∃ F2 b, ezH Q r F2 ∧ K F2 b = true ∧ ezden r b = ezcl v := by
  unfold ezle at h
  rw [xfe_s, Bool.and_eq_true] at h
  have b := ezbd_s H h.1
  refine ⟨F, e, H, h.2, ?_⟩
  unfold ezcl
  rw [xle_iff.mpr (by omega), xle_iff.mpr (by omega)]
  exact hv
theorem ezbk_s {j x y p : xjE} : ∀ (t : xjE) {F : xF} {K : xF → xjE → Bool}, ezH Q r F → ezbk j x y p t F K = true → ∃ F2 b, ezH Q r F2 ∧ K F2 b = true ∧ ezden r b = ezbv (ezden r j) (ezden r x) (ezden r y) (ezden r p) t
  | .num _, F, K, H, h => ezle_s H rfl h
  | .natCast _, F, K, H, h => by cases h
  | .intCast _, F, K, H, h => by cases h
  | .var i, F, K, H, h => ezle_s H (ezlq_s r j x y p (.var i)) h
  | .neg _, F, K, H, h => by cases h
  | .add a b, F, K, H, h => ezle_s H (ezlq_s r j x y p (.add a b)) h
  | .sub a b, F, K, H, h => ezle_s H (ezlq_s r j x y p (.sub a b)) h
  | .mul a b, F, K, H, h => ezle_s H (ezlq_s r j x y p (.mul a b)) h
  | .pow (.mul (.sub a b) (.mul t e)) c, F, K, H, h => by
      have h : (eztest F (ezcd c) (ezlq_ j x y p a) (ezlq_ j x y p b)).all (fun q => (xtwo (eztest F (ezcd c) (ezlq_ j x y p a) (ezlq_ j x y p b)) && ezctra q.2) || (bif q.1 then ezbk j x y p t q.2 K else ezbk j x y p e q.2 K)) = true := h
      obtain ⟨q, hq, H2, hc⟩ := eztest_s H (ezcd c) (ezlq_ j x y p a) (ezlq_ j x y p b)
      have h2 := List.all_eq_true.mp h q hq
      rw [ezctra_s H2, Bool.and_false, Bool.false_or] at h2
      rw [ezlq_s, ezlq_s] at hc
      have e0 : ezbv (ezden r j) (ezden r x) (ezden r y) (ezden r p) (.pow (.mul (.sub a b) (.mul t e)) c) = bif yccd (ezcd c) (ezlf (ezden r j) (ezden r x) (ezden r y) (ezden r p) a) (ezlf (ezden r j) (ezden r x) (ezden r y) (ezden r p) b) then ezbv (ezden r j) (ezden r x) (ezden r y) (ezden r p) t else ezbv (ezden r j) (ezden r x) (ezden r y) (ezden r p) e := rfl
      cases hb : q.1 with
      | true =>
        rw [hb] at h2
        obtain ⟨F3, b9, a1, a2, a3⟩ := ezbk_s t H2 h2
        exact ⟨F3, b9, a1, a2, by rw [a3, e0, hc.mp hb]; rfl⟩
      | false =>
        rw [hb] at h2
        obtain ⟨F3, b9, a1, a2, a3⟩ := ezbk_s e H2 h2
        have hn : yccd (ezcd c) (ezlf (ezden r j) (ezden r x) (ezden r y) (ezden r p) a) (ezlf (ezden r j) (ezden r x) (ezden r y) (ezden r p) b) = false := by
          cases hh : yccd (ezcd c) (ezlf (ezden r j) (ezden r x) (ezden r y) (ezden r p) a) (ezlf (ezden r j) (ezden r x) (ezden r y) (ezden r p) b) with
          | false => rfl
          | true => rw [hc.mpr hh] at hb; cases hb
        exact ⟨F3, b9, a1, a2, by rw [a3, e0, hn]; rfl⟩
  | .pow (.add a b) c, F, K, H, h => ezle_s H (ezlq_s r j x y p (.pow (.add a b) c)) h
  | .pow (.num _) _, F, K, H, h => by cases h
  | .pow (.natCast _) _, F, K, H, h => by cases h
  | .pow (.intCast _) _, F, K, H, h => by cases h
  | .pow (.var _) _, F, K, H, h => by cases h
  | .pow (.neg _) _, F, K, H, h => by cases h
  | .pow (.sub _ _) _, F, K, H, h => by cases h
  | .pow (.pow _ _) _, F, K, H, h => by cases h
  | .pow (.mul (.num _) _) _, F, K, H, h => by cases h
  | .pow (.mul (.natCast _) _) _, F, K, H, h => by cases h
  | .pow (.mul (.intCast _) _) _, F, K, H, h => by cases h
  | .pow (.mul (.var _) _) _, F, K, H, h => by cases h
  | .pow (.mul (.neg _) _) _, F, K, H, h => by cases h
  | .pow (.mul (.add _ _) _) _, F, K, H, h => by cases h
  | .pow (.mul (.mul _ _) _) _, F, K, H, h => by cases h
  | .pow (.mul (.pow _ _) _) _, F, K, H, h => by cases h
  | .pow (.mul (.sub _ _) (.num _)) _, F, K, H, h => by cases h
  | .pow (.mul (.sub _ _) (.natCast _)) _, F, K, H, h => by cases h
  | .pow (.mul (.sub _ _) (.intCast _)) _, F, K, H, h => by cases h
  | .pow (.mul (.sub _ _) (.var _)) _, F, K, H, h => by cases h
  | .pow (.mul (.sub _ _) (.neg _)) _, F, K, H, h => by cases h
  | .pow (.mul (.sub _ _) (.add _ _)) _, F, K, H, h => by cases h
  | .pow (.mul (.sub _ _) (.sub _ _)) _, F, K, H, h => by cases h
  | .pow (.mul (.sub _ _) (.pow _ _)) _, F, K, H, h => by cases h
/-- a ghost of a version -/
def ezgx (z : Int) (v : Nat) (c k p d : xjE) : xjE := match k with
  | .num t => bif xle t 0 then .num 0 else .pow (.sub (.intCast z) (.mul c (.mul (.num t) (.mul p d)))) v
  | k => .pow (.sub (.intCast z) (.mul c (.mul k (.mul p d)))) v
theorem ezgh_0 {z : Int} {H : Int → Int → Int} {c k p d : Int} (h : k ≤ 0) : ezgh z H c k p d = 0 := by
  unfold ezgh ezgN
  rw [show k.toNat = 0 by omega]
  rfl
theorem ezgx_s (r : ezR) (z : Int) (v : Nat) (c k p d : xjE) : ezden r (ezgx z v c k p d) = ezgh z (r.2.1 v) (ezden r c) (ezden r k) (ezden r p) (ezden r d) := by
  unfold ezgx
  split
  · rename_i t
    cases h : xle t 0 with
    | true =>
      rw [xle_iff] at h
      exact (ezgh_0 (show ezden r (.num t) ≤ 0 from h)).symm
    | false => rfl
  · rfl
theorem ezgs_c {b : xjE} {H G : Int → Int → Int} {c d p : Int} : ∀ n : Nat, (∀ i : Nat, i < n → H c i = G c i) → (∀ i : Nat, i < n → H d i = G d i) → ezgs b H c d p n = ezgs b G c d p n := by
  intro n
  induction n with
  | zero => intro _ _; rfl
  | succ n ih =>
    intro h1 h2
    show ezgs b H c d p n + ezbv (n : Int) (H c n) (H d n) p b = ezgs b G c d p n + ezbv (n : Int) (G c n) (G d n) p b
    rw [ih (fun i hi => h1 i (by omega)) (fun i hi => h2 i (by omega)), h1 n (by omega), h2 n (by omega)]
theorem ezgs_w {b : xjE} {H : Int → Int → Int} {c d p w x : Int} (j : Nat) : ∀ n : Nat, ezgs b (ezwr H w (j : Int) x) c d p n = ezgs b H c d p n + (if j < n then ezbv (j : Int) (ezwr H w (j : Int) x c j) (ezwr H w (j : Int) x d j) p b - ezbv (j : Int) (H c j) (H d j) p b else 0) := by
  intro n
  induction n with
  | zero => rw [if_neg (by omega)]; rfl
  | succ n ih =>
    show ezgs b (ezwr H w (j : Int) x) c d p n + ezbv (n : Int) (ezwr H w (j : Int) x c n) (ezwr H w (j : Int) x d n) p b = ezgs b H c d p n + ezbv (n : Int) (H c n) (H d n) p b + _
    rw [ih]
    by_cases h : n = j
    · subst h
      rw [if_neg (by omega), if_pos (by omega)]
      omega
    · rw [ezwr_ne (H := H) (c := w) (j := (j : Int)) (x := x) (a := c) (i := (n : Int)) (fun z => h (by have := z.2; omega)), ezwr_ne (H := H) (c := w) (j := (j : Int)) (x := x) (a := d) (i := (n : Int)) (fun z => h (by have := z.2; omega))]
      by_cases h2 : j < n
      · rw [if_pos h2, if_pos (by omega)]; omega
      · rw [if_neg h2, if_neg (by omega)]; omega
def ezgi (F : xF) (b : Bool) (m : Nat) (c : xjE) : Bool := ezcell F c (fun n => Nat.ble 14 (ezK n) && (bif b then Nat.testBit m (ezloc n 0) else !(Nat.testBit m (ezloc n 0))))
theorem ezgi_s (H : ezH Q r F) {b : Bool} {m : Nat} {c : xjE} (h : ezgi F b m c = true) (j : Int) : Nat.testBit m (ezlc (ezden r c) j) = b := by
  have h2 := (ezcell_s H h).2.2
  rw [Bool.and_eq_true] at h2
  have e : ezlc (ezden r c) j = ezloc (ezden r c).toNat 0 := by
    show xg0 ezB (ezden r c).toNat + (bif Nat.blt (ezK (ezden r c).toNat) 14 then j.toNat else 0) = xg0 ezB (ezden r c).toNat + (bif Nat.blt (ezK (ezden r c).toNat) 14 then 0 else 0)
    rw [ycblf (Nat.ble_eq.mp h2.1)]
    rfl
  rw [e]
  cases b with
  | true => exact h2.2
  | false => exact xbnot h2.2
/-- a ghost of the heap as it is -/
def ezgg (z : Int) (c k p d : xjE) : List ezLy → xF → (xF → xjE → Bool) → Bool
  | [], F, K => xfe (ezgx z 0 c k p d) (fun e => K F e)
  | (0, w, _) :: ws, F, K => bif ezapart F c w.1 && ezapart F d w.1 then ezgg z c k p d ws F K else
      (((xeq c w.1 || ezapart F c w.1) && (xeq d w.1 || ezapart F d w.1)) && (ezblo F w.2.1 0 && ezbhi F w.2.1 65535)) &&
      (eztest F .lt w.2.1 k).all (fun q => (xtwo (eztest F .lt w.2.1 k) && ezctra q.2) || (bif q.1 then
        ezget q.2 ws c w.2.1 (fun F x => ezget F ws d w.2.1 (fun F y => ezbk w.2.1 x y p (ezGB z) F (fun F b0 => ezbk w.2.1 (bif xeq c w.1 then w.2.2 else x) (bif xeq d w.1 then w.2.2 else y) p (ezGB z) F (fun F b1 => ezgg z c k p d ws F (fun F e => xfe (ezdf (xlin e b1) b0) (fun e => K F e))))))
        else ezgg z c k p d ws q.2 K))
  | (v + 1, _, m) :: ws, F, K => bif ezgi F true m c && ezgi F true m d then xfe (ezgx z v c k p d) (fun e => K F e) else (ezgi F false m c && ezgi F false m d) && ezgg z c k p d ws F K
set_option maxHeartbeats 1000000 in
theorem ezgg_s {z : Int} {c k p d : xjE} : ∀ (ws : List ezLy) {F : xF} {K : xF → xjE → Bool}, ezH Q r F → ezgg z c k p d ws F K = true → ∃ F2 e, ezH Q r F2 ∧ K F2 e = true ∧ ezden r e = ezgh z (ezhh r ws) (ezden r c) (ezden r k) (ezden r p) (ezden r d) := by
  intro ws
  induction ws with
  | nil =>
    intro F K H h
    unfold ezgg at h
    rw [xfe_s] at h
    exact ⟨F, _, H, h, ezgx_s r z 0 c k p d⟩
  | cons w ws ih =>
    intro F K H h
    obtain ⟨t, w, m⟩ := w
    cases t with
    | succ v =>
      have h : (bif ezgi F true m c && ezgi F true m d then xfe (ezgx z v c k p d) (fun e => K F e) else (ezgi F false m c && ezgi F false m d) && ezgg z c k p d ws F K) = true := h
      have e0 : ∀ a j, ezhh r ((v + 1, w, m) :: ws) a j = bif Nat.testBit m (ezlc a j) then r.2.1 v a j else ezhh r ws a j := fun _ _ => rfl
      cases hb : ezgi F true m c && ezgi F true m d with
      | true =>
        rw [hb] at h
        simp only [cond_true, xfe_s] at h
        rw [Bool.and_eq_true] at hb
        refine ⟨F, _, H, h, ?_⟩
        rw [ezgx_s]
        unfold ezgh
        exact (ezgs_c _ (fun i _ => by rw [e0, ezgi_s H hb.1]; rfl) (fun i _ => by rw [e0, ezgi_s H hb.2]; rfl)).symm
      | false =>
        rw [hb] at h
        simp only [cond_false, Bool.and_eq_true] at h
        obtain ⟨F2, e, a1, a2, a3⟩ := ih H h.2
        refine ⟨F2, e, a1, a2, ?_⟩
        rw [a3]
        unfold ezgh
        exact (ezgs_c _ (fun i _ => by rw [e0, ezgi_s H h.1.1]; rfl) (fun i _ => by rw [e0, ezgi_s H h.1.2]; rfl)).symm
    | zero =>
      have e0 : ezhh r ((0, w, m) :: ws) = ezwr (ezhh r ws) (ezden r w.1) (ezden r w.2.1) (ezden r w.2.2) := rfl
      unfold ezgg at h
      revert h
      cases hb : ezapart F c w.1 && ezapart F d w.1 with
      | true =>
        simp only [cond_true]
        intro h
        rw [Bool.and_eq_true] at hb
        have n1 := ezapart_s H hb.1
        have n2 := ezapart_s H hb.2
        obtain ⟨F2, e, a1, a2, a3⟩ := ih H h
        refine ⟨F2, e, a1, a2, ?_⟩
        rw [a3, e0]
        unfold ezgh
        exact (ezgs_c _ (fun i _ => ezwr_ne (fun z => n1 z.1)) (fun i _ => ezwr_ne (fun z => n2 z.1))).symm
      | false =>
        simp only [cond_false]
        intro h
        rw [Bool.and_eq_true, Bool.and_eq_true, Bool.and_eq_true, Bool.and_eq_true, Bool.or_eq_true, Bool.or_eq_true] at h
        obtain ⟨⟨⟨hc, hd⟩, hj0, hj1⟩, h⟩ := h
        have j0 := ezblo_s H hj0
        have j1 := ezbhi_s H hj1
        obtain ⟨q, hq, H2, hlt⟩ := eztest_s H .lt w.2.1 k
        have h1 := List.all_eq_true.mp h q hq
        rw [ezctra_s H2, Bool.and_false, Bool.false_or] at h1
        have elt : yccd .lt (ezden r w.2.1) (ezden r k) = decide (ezden r w.2.1 < ezden r k) := rfl
        rw [elt, decide_eq_true_iff] at hlt
        have ej : (((ezden r w.2.1).toNat : Nat) : Int) = ezden r w.2.1 := by omega
        have W := ezgs_w (b := ezGB z) (H := ezhh r ws) (c := ezden r c) (d := ezden r d) (p := ezden r p) (w := ezden r w.1) (x := ezden r w.2.2) (ezden r w.2.1).toNat (ezgN (ezden r k))
        rw [ej] at W
        cases hb1 : q.1 with
        | false =>
          rw [hb1] at h1
          obtain ⟨F2, e, a1, a2, a3⟩ := ih H2 h1
          refine ⟨F2, e, a1, a2, ?_⟩
          have nlt : ¬ (ezden r w.2.1).toNat < ezgN (ezden r k) := by
            intro q9
            have : ezgN (ezden r k) ≤ (ezden r k).toNat := by
              unfold ezgN
              cases h9 : Nat.ble (ezden r k).toNat 65536 with
              | true => exact Nat.le_refl _
              | false =>
                have : ¬ (ezden r k).toNat ≤ 65536 := fun z => by rw [Nat.ble_eq.mpr z] at h9; cases h9
                show 65536 ≤ _
                omega
            have := hlt.mpr (by omega)
            rw [this] at hb1
            cases hb1
          rw [a3, e0]
          show ezgs _ _ _ _ _ _ = ezgs _ _ _ _ _ _
          rw [W, if_neg nlt, Int.add_zero]
        | true =>
          rw [hb1] at h1
          simp only [cond_true] at h1
          obtain ⟨F3, x, H3, h3, dx⟩ := ezget_s H2 h1
          obtain ⟨F4, y, H4, h4, dy⟩ := ezget_s H3 h3
          obtain ⟨F5, b0, H5, h5, d0⟩ := ezbk_s _ H4 h4
          obtain ⟨F6, b1, H6, h6, d1⟩ := ezbk_s _ H5 h5
          obtain ⟨F7, e, H7, h7, d7⟩ := ih H6 h6
          rw [xfe_s] at h7
          have klt := hlt.mp hb1
          have lt : (ezden r w.2.1).toNat < ezgN (ezden r k) := by
            unfold ezgN
            cases h9 : Nat.ble (ezden r k).toNat 65536 with
            | true => show _ < (ezden r k).toNat; omega
            | false => show _ < 65536; omega
          have ex : ezden r (bif xeq c w.1 then w.2.2 else x) = ezwr (ezhh r ws) (ezden r w.1) (ezden r w.2.1) (ezden r w.2.2) (ezden r c) (ezden r w.2.1) := by
            cases hx : xeq c w.1 with
            | true => rw [xeq_s hx, ezwr_eq]; rfl
            | false =>
              have n1 := ezapart_s H (hc.resolve_left (fun z => by rw [hx] at z; cases z))
              rw [ezwr_ne (fun z => n1 z.1), ← dx]; rfl
          have ey : ezden r (bif xeq d w.1 then w.2.2 else y) = ezwr (ezhh r ws) (ezden r w.1) (ezden r w.2.1) (ezden r w.2.2) (ezden r d) (ezden r w.2.1) := by
            cases hx : xeq d w.1 with
            | true => rw [xeq_s hx, ezwr_eq]; rfl
            | false =>
              have n1 := ezapart_s H (hd.resolve_left (fun z => by rw [hx] at z; cases z))
              rw [ezwr_ne (fun z => n1 z.1), ← dy]; rfl
          refine ⟨F7, _, H7, h7, ?_⟩
          rw [ezdf_s, ezlin_s, d7, d1, d0, ex, ey, dx, dy, e0]
          show ezgs _ _ _ _ _ _ + _ - _ = ezgs _ _ _ _ _ _
          rw [W, if_pos lt]
          omega
/-- a pattern's worth: l what stands for its numbers, versions 0 and 1 are the heaps of L0 and L1 -/
def ezev (l : List (Nat × xjE)) (L0 L1 : List ezLy) : xjE → xF → (xF → xjE → Bool) → Bool
  | .num z, F, k => k F (.num z)
  | .var i, F, k => (match ezlo l i with
    | some e => k F e
    | none => Nat.blt i 4096 && k F (ezcon F (.var i)))
  | .add a b, F, k => ezev l L0 L1 a F (fun F a => ezev l L0 L1 b F (fun F b => xfe (xlin a b) (fun e => k F e)))
  | .sub a b, F, k => ezev l L0 L1 a F (fun F a => ezev l L0 L1 b F (fun F b => xfe (ezdf a b) (fun e => k F e)))
  | .neg a, F, k => ezev l L0 L1 a F (fun F a => xfe (ezsc (-1) a) (fun e => k F e))
  | .mul a b, F, k => ezev l L0 L1 a F (fun F a => ezev l L0 L1 b F (fun F b => xfe (ezml a b) (fun e => k F e)))
  | .pow (.mul c j) v, F, k => ezev l L0 L1 c F (fun F c => ezev l L0 L1 j F (fun F j => bif Nat.beq v 0 then ezget F L0 c j k else Nat.beq v 1 && ezget F L1 c j k))
  | .pow (.add a b) v, F, k => ezev l L0 L1 a F (fun F a => ezev l L0 L1 b F (fun F b => xfe (ezmm F v a b) (fun e => k F e)))
  | .pow (.neg a) v, F, k => ezev l L0 L1 a F (fun F a => xfe (xun v a) (fun e => k F e))
  | .pow (.sub (.intCast z) (.mul c (.mul n (.mul p d)))) v, F, k => ezev l L0 L1 c F (fun F c => ezev l L0 L1 n F (fun F n => ezev l L0 L1 p F (fun F p => ezev l L0 L1 d F (fun F d => bif Nat.beq v 0 then ezgg z c n p d L0 F k else Nat.beq v 1 && ezgg z c n p d L1 F k))))
  | _, _, _ => false
/-- what a pattern speaks of (s) and a state (r) -/
def ezsb (r s : ezR) (l : List (Nat × xjE)) (L0 L1 : List ezLy) : Prop := (∀ i e, ezlo l i = some e → s.1 i = ezden r e) ∧ (∀ i, ezlo l i = none → i < 4096 → s.1 i = r.1 i) ∧ s.2.1 0 = ezhh r L0 ∧ s.2.1 1 = ezhh r L1
theorem ezev_s {l : List (Nat × xjE)} {L0 L1 : List ezLy} (hs : ezsb r s l L0 L1) : ∀ (t : xjE) {F : xF} {k : xF → xjE → Bool}, ezH Q r F → ezev l L0 L1 t F k = true → ∃ F2 e, ezH Q r F2 ∧ k F2 e = true ∧ ezden r e = ezden s t
  | .num z, F, k, H, h => ⟨F, _, H, h, rfl⟩
  | .var i, F, k, H, h => by
      unfold ezev at h
      split at h
      · rename_i e he
        exact ⟨F, e, H, h, (hs.1 i e he).symm⟩
      · rename_i he
        rw [Bool.and_eq_true] at h
        exact ⟨F, _, H, h.2, by rw [ezcon_s H]; exact (hs.2.1 i he (Nat.ble_eq.mp h.1)).symm⟩
  | .add a b, F, k, H, h => by
      unfold ezev at h
      obtain ⟨F2, e, h1, h2, h3⟩ := ezev_s hs a H h
      obtain ⟨F3, e2, h4, h5, h6⟩ := ezev_s hs b h1 h2
      rw [xfe_s] at h5
      exact ⟨F3, _, h4, h5, by rw [ezlin_s, h3, h6]; rfl⟩
  | .sub a b, F, k, H, h => by
      unfold ezev at h
      obtain ⟨F2, e, h1, h2, h3⟩ := ezev_s hs a H h
      obtain ⟨F3, e2, h4, h5, h6⟩ := ezev_s hs b h1 h2
      rw [xfe_s] at h5
      exact ⟨F3, _, h4, h5, by rw [ezdf_s, h3, h6]; rfl⟩
  | .neg a, F, k, H, h => by
      unfold ezev at h
      obtain ⟨F2, e, h1, h2, h3⟩ := ezev_s hs a H h
      rw [xfe_s] at h2
      exact ⟨F2, _, h1, h2, by rw [ezsc_s, h3]; show -1 * ezden s a = - ezden s a; omega⟩
  | .mul a b, F, k, H, h => by
      unfold ezev at h
      obtain ⟨F2, e, h1, h2, h3⟩ := ezev_s hs a H h
      obtain ⟨F3, e2, h4, h5, h6⟩ := ezev_s hs b h1 h2
      rw [xfe_s] at h5
      exact ⟨F3, _, h4, h5, by rw [ezml_s, h3, h6]; rfl⟩
  | .pow (.mul c j) v, F, k, H, h => by
      unfold ezev at h
      obtain ⟨F2, e, h1, h2, h3⟩ := ezev_s hs c H h
      obtain ⟨F3, e2, h4, h5, h6⟩ := ezev_s hs j h1 h2
      cases hv : Nat.beq v 0 with
      | true =>
        rw [hv] at h5
        obtain ⟨F4, e3, a1, a2, a3⟩ := ezget_s h4 h5
        refine ⟨F4, e3, a1, a2, ?_⟩
        rw [a3, Nat.eq_of_beq_eq_true hv, h3, h6, ← hs.2.2.1]
        rfl
      | false =>
        rw [hv] at h5
        simp only [cond_false, Bool.and_eq_true] at h5
        obtain ⟨F4, e3, a1, a2, a3⟩ := ezget_s h4 h5.2
        refine ⟨F4, e3, a1, a2, ?_⟩
        rw [a3, Nat.eq_of_beq_eq_true h5.1, h3, h6, ← hs.2.2.2]
        rfl
  | .pow (.add a b) v, F, k, H, h => by
      unfold ezev at h
      obtain ⟨F2, e, h1, h2, h3⟩ := ezev_s hs a H h
      obtain ⟨F3, e2, h4, h5, h6⟩ := ezev_s hs b h1 h2
      rw [xfe_s] at h5
      exact ⟨F3, _, h4, h5, by rw [ezmm_s h4, h3, h6]; rfl⟩
  | .pow (.neg a) v, F, k, H, h => by
      unfold ezev at h
      obtain ⟨F2, e, h1, h2, h3⟩ := ezev_s hs a H h
      rw [xfe_s] at h2
      exact ⟨F2, _, h1, h2, by rw [ezun_s, h3]; rfl⟩
  | .natCast _, F, k, H, h => by unfold ezev at h; cases h
  | .intCast _, F, k, H, h => by unfold ezev at h; cases h
  | .pow (.num _) _, F, k, H, h => by unfold ezev at h; cases h
  | .pow (.natCast _) _, F, k, H, h => by unfold ezev at h; cases h
  | .pow (.intCast _) _, F, k, H, h => by unfold ezev at h; cases h
  | .pow (.var _) _, F, k, H, h => by unfold ezev at h; cases h
  | .pow (.sub (.intCast z) (.mul c (.mul n (.mul p d)))) v, F, k, H, h => by
      unfold ezev at h
      obtain ⟨F2, e2, h1, h2, d2⟩ := ezev_s hs c H h
      obtain ⟨F3, e3, h3, h4, d3⟩ := ezev_s hs n h1 h2
      obtain ⟨F4, e4, h5, h6, d4⟩ := ezev_s hs p h3 h4
      obtain ⟨F5, e5, h7, h8, d5⟩ := ezev_s hs d h5 h6
      cases hv : Nat.beq v 0 with
      | true =>
        rw [hv] at h8
        obtain ⟨F6, e6, a1, a2, a3⟩ := ezgg_s _ h7 h8
        refine ⟨F6, e6, a1, a2, ?_⟩
        rw [a3, Nat.eq_of_beq_eq_true hv, d2, d3, d4, d5, ← hs.2.2.1]
        rfl
      | false =>
        rw [hv] at h8
        simp only [cond_false, Bool.and_eq_true] at h8
        obtain ⟨F6, e6, a1, a2, a3⟩ := ezgg_s _ h7 h8.2
        refine ⟨F6, e6, a1, a2, ?_⟩
        rw [a3, Nat.eq_of_beq_eq_true h8.1, d2, d3, d4, d5, ← hs.2.2.2]
        rfl
  | .pow (.sub (.num _) _) _, F, k, H, h => by unfold ezev at h; cases h
  | .pow (.sub (.natCast _) _) _, F, k, H, h => by unfold ezev at h; cases h
  | .pow (.sub (.var _) _) _, F, k, H, h => by unfold ezev at h; cases h
  | .pow (.sub (.neg _) _) _, F, k, H, h => by unfold ezev at h; cases h
  | .pow (.sub (.add _ _) _) _, F, k, H, h => by unfold ezev at h; cases h
  | .pow (.sub (.sub _ _) _) _, F, k, H, h => by unfold ezev at h; cases h
  | .pow (.sub (.mul _ _) _) _, F, k, H, h => by unfold ezev at h; cases h
  | .pow (.sub (.pow _ _) _) _, F, k, H, h => by unfold ezev at h; cases h
  | .pow (.sub (.intCast _) (.num _)) _, F, k, H, h => by unfold ezev at h; cases h
  | .pow (.sub (.intCast _) (.natCast _)) _, F, k, H, h => by unfold ezev at h; cases h
  | .pow (.sub (.intCast _) (.intCast _)) _, F, k, H, h => by unfold ezev at h; cases h
  | .pow (.sub (.intCast _) (.var _)) _, F, k, H, h => by unfold ezev at h; cases h
  | .pow (.sub (.intCast _) (.neg _)) _, F, k, H, h => by unfold ezev at h; cases h
  | .pow (.sub (.intCast _) (.add _ _)) _, F, k, H, h => by unfold ezev at h; cases h
  | .pow (.sub (.intCast _) (.sub _ _)) _, F, k, H, h => by unfold ezev at h; cases h
  | .pow (.sub (.intCast _) (.pow _ _)) _, F, k, H, h => by unfold ezev at h; cases h
  | .pow (.sub (.intCast _) (.mul _ (.num _))) _, F, k, H, h => by unfold ezev at h; cases h
  | .pow (.sub (.intCast _) (.mul _ (.natCast _))) _, F, k, H, h => by unfold ezev at h; cases h
  | .pow (.sub (.intCast _) (.mul _ (.intCast _))) _, F, k, H, h => by unfold ezev at h; cases h
  | .pow (.sub (.intCast _) (.mul _ (.var _))) _, F, k, H, h => by unfold ezev at h; cases h
  | .pow (.sub (.intCast _) (.mul _ (.neg _))) _, F, k, H, h => by unfold ezev at h; cases h
  | .pow (.sub (.intCast _) (.mul _ (.add _ _))) _, F, k, H, h => by unfold ezev at h; cases h
  | .pow (.sub (.intCast _) (.mul _ (.sub _ _))) _, F, k, H, h => by unfold ezev at h; cases h
  | .pow (.sub (.intCast _) (.mul _ (.pow _ _))) _, F, k, H, h => by unfold ezev at h; cases h
  | .pow (.sub (.intCast _) (.mul _ (.mul _ (.num _)))) _, F, k, H, h => by unfold ezev at h; cases h
  | .pow (.sub (.intCast _) (.mul _ (.mul _ (.natCast _)))) _, F, k, H, h => by unfold ezev at h; cases h
  | .pow (.sub (.intCast _) (.mul _ (.mul _ (.intCast _)))) _, F, k, H, h => by unfold ezev at h; cases h
  | .pow (.sub (.intCast _) (.mul _ (.mul _ (.var _)))) _, F, k, H, h => by unfold ezev at h; cases h
  | .pow (.sub (.intCast _) (.mul _ (.mul _ (.neg _)))) _, F, k, H, h => by unfold ezev at h; cases h
  | .pow (.sub (.intCast _) (.mul _ (.mul _ (.add _ _)))) _, F, k, H, h => by unfold ezev at h; cases h
  | .pow (.sub (.intCast _) (.mul _ (.mul _ (.sub _ _)))) _, F, k, H, h => by unfold ezev at h; cases h
  | .pow (.sub (.intCast _) (.mul _ (.mul _ (.pow _ _)))) _, F, k, H, h => by unfold ezev at h; cases h
  | .pow (.pow _ _) _, F, k, H, h => by unfold ezev at h; cases h
/-- facts that are shown -/
def ezchk (l : List (Nat × xjE)) (L0 L1 : List ezLy) : xF → xF → (xF → Bool) → Bool
  | [], F, k => k F
  | q :: fs, F, k => ezev l L0 L1 q.1 F (fun F2 e => ezbd F2 e q.2.1 q.2.2 && ezchk l L0 L1 fs F2 k)
theorem ezchk_s {l : List (Nat × xjE)} {L0 L1 : List ezLy} (hs : ezsb r s l L0 L1) : ∀ (fs : xF) {F : xF} {k : xF → Bool}, ezH Q r F → ezchk l L0 L1 fs F k = true → ∃ F2, ezH Q r F2 ∧ k F2 = true ∧ ∀ q ∈ fs, q.2.1 ≤ ezden s q.1 ∧ ezden s q.1 ≤ q.2.2 := by
  intro fs
  induction fs with
  | nil => intro F k H h; exact ⟨F, H, h, fun q hq => by cases hq⟩
  | cons q fs ih =>
    intro F k H h
    unfold ezchk at h
    obtain ⟨F2, e, h1, h2, h3⟩ := ezev_s hs q.1 H h
    rw [Bool.and_eq_true] at h2
    obtain ⟨F3, h4, h5, h6⟩ := ih h1 h2.2
    have b := ezbd_s h1 h2.1
    rw [h3] at b
    exact ⟨F3, h4, h5, fun z hz => (List.mem_cons.mp hz).elim (fun e => by rw [e]; exact b) (h6 z)⟩
/-- facts that are taken up -/
def ezfact (F : xF) (e : xjE) (lo hi : Int) (k : xF → Bool) : Bool := match e with
  | .num z => bif xle lo z && xle z hi then k F else true
  | e => bif xle lo (eziv F e).1 && xle (eziv F e).2 hi then k F else bif !(xle (xmx lo (eziv F e).1) (xmn hi (eziv F e).2)) then true else xfi (xpe e (xmx lo (eziv F e).1)).2 (fun a => xfi (xpe e (xmn hi (eziv F e).2)).2 (fun b => k (ezput F (xpe e 0).1 a b)))
theorem ezxpe1 (e : xjE) (c d : Int) : (xpe e c).1 = (xpe e d).1 := by
  unfold xpe
  split <;> rfl
theorem ezfact_s (H : ezH Q r F) {e : xjE} {lo hi : Int} {k : xF → Bool} (h : ezfact F e lo hi k = true) (hb : lo ≤ ezden r e ∧ ezden r e ≤ hi) : ∃ F2, ezH Q r F2 ∧ k F2 = true := by
  unfold ezfact at h
  split at h
  · rename_i z
    have hb : lo ≤ z ∧ z ≤ hi := hb
    rw [xle_iff.mpr hb.1, xle_iff.mpr hb.2] at h
    exact ⟨F, H, h⟩
  · cases hc : xle lo (eziv F e).1 && xle (eziv F e).2 hi with
    | true => rw [hc] at h; exact ⟨F, H, h⟩
    | false =>
      rw [hc] at h
      simp only [cond_false] at h
      have iv := eziv_s H e
      have m1 := xmx_s lo (eziv F e).1
      have m2 := xmn_s hi (eziv F e).2
      rw [show xle (xmx lo (eziv F e).1) (xmn hi (eziv F e).2) = true from xle_iff.mpr (by omega), Bool.not_true, cond_false, xfi_s, xfi_s] at h
      have p1 := ezpe_s r e (xmx lo (eziv F e).1)
      have p2 := ezpe_s r e (xmn hi (eziv F e).2)
      rw [ezxpe1 e _ 0] at p1 p2
      refine ⟨_, ezHpt H ?_ ?_, h⟩
      · omega
      · omega
def ezasm (l : List (Nat × xjE)) (L0 L1 : List ezLy) : xF → xF → (xF → Bool) → Bool
  | [], F, k => k F
  | q :: fs, F, k => ezev l L0 L1 q.1 F (fun F2 e => ezfact F2 e q.2.1 q.2.2 (fun F3 => ezasm l L0 L1 fs F3 k))
theorem ezasm_s {l : List (Nat × xjE)} {L0 L1 : List ezLy} (hs : ezsb r s l L0 L1) : ∀ (fs : xF) {F : xF} {k : xF → Bool}, ezH Q r F → (∀ q ∈ fs, q.2.1 ≤ ezden s q.1 ∧ ezden s q.1 ≤ q.2.2) → ezasm l L0 L1 fs F k = true → ∃ F2, ezH Q r F2 ∧ k F2 = true := by
  intro fs
  induction fs with
  | nil => intro F k H _ h; exact ⟨F, H, h⟩
  | cons q fs ih =>
    intro F k H hq h
    unfold ezasm at h
    obtain ⟨F2, e, h1, h2, h3⟩ := ezev_s hs q.1 H h
    obtain ⟨F3, h4, h5⟩ := ezfact_s h1 h2 (by rw [h3]; exact hq q List.mem_cons_self)
    exact ih h4 (fun z hz => hq z (List.mem_cons_of_mem _ hz)) h5
/-! every slot keeps its range -/
def ezwok (F : xF) (c j x : xjE) : Bool := match ezvals F c with
  | [] => false
  | y :: l => ezslot F c j (fun n => xle (-9223372036854775808) (ezSl n (ezsj j)).2.1 && (xle (ezSl n (ezsj j)).2.2.1 9223372036854775807 && ((ezSl n (ezsj j)).2.2.2.isEmpty || (match ezvals F x with | [] => false | u :: m => (u :: m).all fun z => xle 0 z && (ezSl n (ezsj j)).2.2.2.any (fun w => Nat.beq w z.toNat))))) &&
      ezbd F x (ezmx (fun n => (ezSl n (ezsj j)).2.1) y l) (ezmn (fun n => (ezSl n (ezsj j)).2.2.1) y l)
theorem ezwok_s (H : ezH Q r F) {c j x : xjE} (h : ezwok F c j x = true) {G : Int → Int → Int} (hG : ezHT G) : ezHT (ezwr G (ezden r c) (ezden r j) (ezden r x)) := by
  unfold ezwok at h
  split at h
  · cases h
  · rename_i y l ev
    rw [Bool.and_eq_true] at h
    obtain ⟨a1, a2, a3, a4, a5, a6⟩ := ezslot_s H h.1
    simp only [Bool.and_eq_true, xle_iff] at a3
    obtain ⟨c1, c2, c3⟩ := a3
    have b := ezbd_s H h.2
    have p1 := ezvals_s H c (by rw [ev]; simp)
    rw [ev] at p1
    have m1 := ezmx_s (f := fun n => (ezSl n (ezsj j)).2.1) l y _ p1
    have m2 := ezmn_s (f := fun n => (ezSl n (ezsj j)).2.2.1) l y _ p1
    have x1 : (ezSl (ezden r c).toNat (ezsj j)).2.1 ≤ ezden r x := Int.le_trans m1 b.1
    have x2 : ezden r x ≤ (ezSl (ezden r c).toNat (ezsj j)).2.2.1 := Int.le_trans b.2 m2
    refine ⟨fun a i => ?_, fun a i ha hi => ?_⟩
    · by_cases h9 : a = ezden r c ∧ i = ezden r j
      · rw [h9.1, h9.2, ezwr_eq]; omega
      · rw [ezwr_ne h9]; exact hG.1 a i
    · by_cases h9 : (a : Int) = ezden r c ∧ (i : Int) = ezden r j
      · have e1 : (ezden r c).toNat = a := by omega
        have e2 : (ezden r j).toNat = i := by omega
        rw [h9.1, h9.2, ezwr_eq]
        rw [e1, e2] at a6
        rw [e1] at x1 x2 c3
        rw [a6]
        refine ⟨x1, x2, ?_⟩
        rw [Bool.or_eq_true, List.isEmpty_iff] at c3
        rcases c3 with c3 | c3
        · exact Or.inl c3
        · refine Or.inr ?_
          split at c3
          · cases c3
          · rename_i u m eu
            have p2 := ezvals_s H x (by rw [eu]; simp)
            rw [eu] at p2
            have q := List.all_eq_true.mp c3 _ p2
            rw [Bool.and_eq_true, xle_iff] at q
            obtain ⟨w, hw, q2⟩ := List.any_eq_true.mp q.2
            have q2 := Nat.eq_of_beq_eq_true q2
            exact ⟨w, hw, by omega⟩
      · rw [ezwr_ne h9]; exact hG.2 a i ha hi
def ezlh (F : xF) : List ezLy → Bool
  | [] => true
  | (0, w, _) :: l => ezwok F w.1 w.2.1 w.2.2 && ezlh F l
  | (_ + 1, _, _) :: l => ezlh F l
theorem ezlh_s (H : ezH Q r F) : ∀ (L : List ezLy), ezlh F L = true → ezHT (ezhh r L) := by
  intro L
  induction L with
  | nil => intro _; exact H.1.1.2.2 0
  | cons w L ih =>
    intro h
    obtain ⟨t, w, m⟩ := w
    cases t with
    | zero =>
      have h : (ezwok F w.1 w.2.1 w.2.2 && ezlh F L) = true := h
      rw [Bool.and_eq_true] at h
      exact ezwok_s H h.1 (ih h.2)
    | succ v =>
      have h2 := ih h
      have hv := H.1.1.2.2 v
      refine ⟨fun a j => ?_, fun a j ha hj => ?_⟩
      · show _ ≤ (bif Nat.testBit m (ezlc a j) then r.2.1 v a j else ezhh r L a j) ∧ (bif Nat.testBit m (ezlc a j) then r.2.1 v a j else ezhh r L a j) ≤ _
        cases Nat.testBit m (ezlc a j) with
        | true => exact hv.1 a j
        | false => exact h2.1 a j
      · show _ ≤ (bif Nat.testBit m (ezlc (a : Int) (j : Int)) then r.2.1 v a j else ezhh r L a j) ∧ (bif Nat.testBit m (ezlc (a : Int) (j : Int)) then r.2.1 v a j else ezhh r L a j) ≤ _ ∧ (_ ∨ ∃ n ∈ _, (bif Nat.testBit m (ezlc (a : Int) (j : Int)) then r.2.1 v a j else ezhh r L a j) = _)
        cases Nat.testBit m (ezlc (a : Int) (j : Int)) with
        | true => exact hv.2 a j ha hj
        | false => exact h2.2 a j ha hj
/-- nothing is written beyond a set of cells -/
def ezwi (m : Nat) (F : xF) : List ezLy → Bool
  | [] => true
  | (0, w, _) :: l => ezcell F w.1 (eztb true m w.2.1) && ezwi m F l
  | (_ + 1, _, k) :: l => Nat.beq (Nat.land k m) k && ezwi m F l
theorem ezwi_s (H : ezH Q r F) {m : Nat} : ∀ (L : List ezLy), ezwi m F L = true → ∀ a j : Int, Nat.testBit m (ezlc a j) = false → ezhh r L a j = r.2.1 0 a j := by
  intro L
  induction L with
  | nil => intro _ a j _; rfl
  | cons w L ih =>
    intro h a j ha
    obtain ⟨t, w, k⟩ := w
    cases t with
    | zero =>
      have h : (ezcell F w.1 (eztb true m w.2.1) && ezwi m F L) = true := h
      rw [Bool.and_eq_true] at h
      have c := eztb_s (r := r) (ezcell_s H h.1).2.2
      show ezwr (ezhh r L) (ezden r w.1) (ezden r w.2.1) (ezden r w.2.2) a j = _
      rw [ezwr_ne (fun z => by rw [z.1, z.2, c] at ha; cases ha)]
      exact ih h.2 a j ha
    | succ v =>
      have h : (Nat.beq (Nat.land k m) k && ezwi m F L) = true := h
      rw [Bool.and_eq_true] at h
      have e := Nat.eq_of_beq_eq_true h.1
      show (bif Nat.testBit k (ezlc a j) then r.2.1 v a j else ezhh r L a j) = _
      cases hb : Nat.testBit k (ezlc a j) with
      | false => exact ih h.2 a j ha
      | true =>
        have e2 : Nat.testBit (k &&& m) (ezlc a j) = (Nat.testBit k (ezlc a j) && Nat.testBit m (ezlc a j)) := Nat.testBit_and k m (ezlc a j)
        have e3 : k &&& m = k := e
        rw [e3, hb, ha] at e2
        cases e2
/-! what a term speaks of: numbers below a (and the script's), versions below v -/
def ezsco (a v : Nat) : xjE → Bool
  | .num _ => true
  | .natCast _ => true
  | .intCast _ => true
  | .var i => Nat.blt i a || Nat.beq (i % 64) 0
  | .neg x => ezsco a v x
  | .add x y => ezsco a v x && ezsco a v y
  | .sub x y => ezsco a v x && ezsco a v y
  | .mul x y => ezsco a v x && ezsco a v y
  | .pow x k => (match x with
    | .add b c => ezsco a v b && ezsco a v c
    | .neg b => ezsco a v b
    | .sub b c => (match b with
      | .num z => Nat.beq (z.toNat % 64) 0 && ezsco a v c
      | .natCast _ => ezsco a v c
      | .intCast _ => (match c with
        | .mul x q => (match q with
          | .mul y q2 => (match q2 with
            | .mul z w => Nat.blt k v && ((ezsco a v x && ezsco a v y) && (ezsco a v z && ezsco a v w))
            | _ => false)
          | _ => false)
        | _ => false)
      | _ => false)
    | .mul c j => Nat.blt k v && (ezsco a v c && ezsco a v j)
    | _ => false)
def ezag (a v : Nat) (r s : ezR) : Prop := (∀ i, (i < a ∨ i % 64 = 0) → r.1 i = s.1 i) ∧ (∀ w, w < v → r.2.1 w = s.2.1 w) ∧ r.2.2 = s.2.2
theorem ezag_t {a b v w : Nat} {r s t : ezR} (h : ezag a v r s) (h2 : ezag b w s t) (hb : b ≤ a) (hw : w ≤ v) : ezag b w r t :=
  ⟨fun i hi => (h.1 i (hi.elim (fun z => Or.inl (Nat.lt_of_lt_of_le z hb)) Or.inr)).trans (h2.1 i hi), fun k hk => (h.2.1 k (Nat.lt_of_lt_of_le hk hw)).trans (h2.2.1 k hk), h.2.2.trans h2.2.2⟩
theorem ezsco_s {a v : Nat} (h : ezag a v r s) : ∀ t : xjE, ezsco a v t = true → ezden r t = ezden s t
  | .num _, _ => rfl
  | .natCast _, _ => rfl
  | .intCast _, _ => rfl
  | .var i, h2 => by
      unfold ezsco at h2
      rw [Bool.or_eq_true] at h2
      exact h.1 i (h2.elim (fun z => Or.inl (Nat.ble_eq.mp z)) (fun z => Or.inr (Nat.eq_of_beq_eq_true z)))
  | .neg x, h2 => by
      show - ezden r x = - ezden s x
      rw [ezsco_s h x h2]
  | .add x y, h2 => by
      unfold ezsco at h2
      rw [Bool.and_eq_true] at h2
      show ezden r x + ezden r y = ezden s x + ezden s y
      rw [ezsco_s h x h2.1, ezsco_s h y h2.2]
  | .sub x y, h2 => by
      unfold ezsco at h2
      rw [Bool.and_eq_true] at h2
      show ezden r x - ezden r y = ezden s x - ezden s y
      rw [ezsco_s h x h2.1, ezsco_s h y h2.2]
  | .mul x y, h2 => by
      unfold ezsco at h2
      rw [Bool.and_eq_true] at h2
      show ezden r x * ezden r y = ezden s x * ezden s y
      rw [ezsco_s h x h2.1, ezsco_s h y h2.2]
  | .pow (.add b c) k, h2 => by
      have h2 : (ezsco a v b && ezsco a v c) = true := h2
      rw [Bool.and_eq_true] at h2
      show xop k (ezden r b) (ezden r c) = xop k (ezden s b) (ezden s c)
      rw [ezsco_s h b h2.1, ezsco_s h c h2.2]
  | .pow (.neg b) k, h2 => by
      have h2 : ezsco a v b = true := h2
      show xop1 k (ezden r b) = xop1 k (ezden s b)
      rw [ezsco_s h b h2]
  | .pow (.sub (.num z) c) k, h2 => by
      have h2 : (Nat.beq (z.toNat % 64) 0 && ezsco a v c) = true := h2
      rw [Bool.and_eq_true] at h2
      show r.1 (z.toNat + 64 * (ezden r c).toNat) = s.1 (z.toNat + 64 * (ezden s c).toNat)
      rw [ezsco_s h c h2.2]
      have := Nat.eq_of_beq_eq_true h2.1
      exact h.1 _ (Or.inr (by omega))
  | .pow (.sub (.natCast z) c) k, h2 => by
      have h2 : ezsco a v c = true := h2
      show ((ezTb z)[(ezden r c).toNat]?).getD 0 = ((ezTb z)[(ezden s c).toNat]?).getD 0
      rw [ezsco_s h c h2]
  | .pow (.mul c j) k, h2 => by
      have h2 : (Nat.blt k v && (ezsco a v c && ezsco a v j)) = true := h2
      rw [Bool.and_eq_true, Bool.and_eq_true] at h2
      show r.2.1 k (ezden r c) (ezden r j) = s.2.1 k (ezden s c) (ezden s j)
      rw [ezsco_s h c h2.2.1, ezsco_s h j h2.2.2, h.2.1 k (Nat.ble_eq.mp h2.1)]
  | .pow (.num _) _, h2 => by cases h2
  | .pow (.natCast _) _, h2 => by cases h2
  | .pow (.intCast _) _, h2 => by cases h2
  | .pow (.var _) _, h2 => by cases h2
  | .pow (.pow _ _) _, h2 => by cases h2
  | .pow (.sub (.intCast z) (.mul c (.mul n (.mul p d)))) k, h2 => by
      have h2 : (Nat.blt k v && ((ezsco a v c && ezsco a v n) && (ezsco a v p && ezsco a v d))) = true := h2
      rw [Bool.and_eq_true, Bool.and_eq_true, Bool.and_eq_true, Bool.and_eq_true] at h2
      show ezgh z (r.2.1 k) (ezden r c) (ezden r n) (ezden r p) (ezden r d) = ezgh z (s.2.1 k) (ezden s c) (ezden s n) (ezden s p) (ezden s d)
      rw [ezsco_s h c h2.2.1.1, ezsco_s h n h2.2.1.2, ezsco_s h p h2.2.2.1, ezsco_s h d h2.2.2.2, h.2.1 k (Nat.ble_eq.mp h2.1)]
  | .pow (.sub (.intCast _) (.num _)) _, h2 => by cases h2
  | .pow (.sub (.intCast _) (.natCast _)) _, h2 => by cases h2
  | .pow (.sub (.intCast _) (.intCast _)) _, h2 => by cases h2
  | .pow (.sub (.intCast _) (.var _)) _, h2 => by cases h2
  | .pow (.sub (.intCast _) (.neg _)) _, h2 => by cases h2
  | .pow (.sub (.intCast _) (.add _ _)) _, h2 => by cases h2
  | .pow (.sub (.intCast _) (.sub _ _)) _, h2 => by cases h2
  | .pow (.sub (.intCast _) (.pow _ _)) _, h2 => by cases h2
  | .pow (.sub (.intCast _) (.mul _ (.num _))) _, h2 => by cases h2
  | .pow (.sub (.intCast _) (.mul _ (.natCast _))) _, h2 => by cases h2
  | .pow (.sub (.intCast _) (.mul _ (.intCast _))) _, h2 => by cases h2
  | .pow (.sub (.intCast _) (.mul _ (.var _))) _, h2 => by cases h2
  | .pow (.sub (.intCast _) (.mul _ (.neg _))) _, h2 => by cases h2
  | .pow (.sub (.intCast _) (.mul _ (.add _ _))) _, h2 => by cases h2
  | .pow (.sub (.intCast _) (.mul _ (.sub _ _))) _, h2 => by cases h2
  | .pow (.sub (.intCast _) (.mul _ (.pow _ _))) _, h2 => by cases h2
  | .pow (.sub (.intCast _) (.mul _ (.mul _ (.num _)))) _, h2 => by cases h2
  | .pow (.sub (.intCast _) (.mul _ (.mul _ (.natCast _)))) _, h2 => by cases h2
  | .pow (.sub (.intCast _) (.mul _ (.mul _ (.intCast _)))) _, h2 => by cases h2
  | .pow (.sub (.intCast _) (.mul _ (.mul _ (.var _)))) _, h2 => by cases h2
  | .pow (.sub (.intCast _) (.mul _ (.mul _ (.neg _)))) _, h2 => by cases h2
  | .pow (.sub (.intCast _) (.mul _ (.mul _ (.add _ _)))) _, h2 => by cases h2
  | .pow (.sub (.intCast _) (.mul _ (.mul _ (.sub _ _)))) _, h2 => by cases h2
  | .pow (.sub (.intCast _) (.mul _ (.mul _ (.pow _ _)))) _, h2 => by cases h2
  | .pow (.sub (.var _) _) _, h2 => by cases h2
  | .pow (.sub (.neg _) _) _, h2 => by cases h2
  | .pow (.sub (.add _ _) _) _, h2 => by cases h2
  | .pow (.sub (.sub _ _) _) _, h2 => by cases h2
  | .pow (.sub (.mul _ _) _) _, h2 => by cases h2
  | .pow (.sub (.pow _ _) _) _, h2 => by cases h2
def ezsL (a v : Nat) (l : List (Nat × xV)) : Bool := l.all fun q => ezsco a v q.2.2
def ezsS (a v : Nat) (l : List xV) : Bool := l.all fun q => ezsco a v q.2
def ezsF (a v : Nat) (l : xF) : Bool := l.all fun q => ezsco a v q.1
def ezsY (a v : Nat) (l : List ezLy) : Bool := l.all fun w => match w.1 with
  | 0 => ezsco a v w.2.1.1 && (ezsco a v w.2.1.2.1 && ezsco a v w.2.1.2.2)
  | k + 1 => Nat.blt k v
def ezsW (a v : Nat) (l : List xFr) : Bool := l.all fun f => ezsL a v f.2.2.1 && ezsS a v f.2.2.2.1
theorem ezsL_s {a v : Nat} (h : ezag a v r s) {l : List (Nat × xV)} (h2 : ezsL a v l = true) : ezdl r l = ezdl s l := by
  unfold ezdl
  apply List.map_congr_left
  intro q hq
  show (q.1, q.2.1, ezden r q.2.2) = (q.1, q.2.1, ezden s q.2.2)
  rw [ezsco_s h _ (List.all_eq_true.mp h2 q hq)]
theorem ezsS_s {a v : Nat} (h : ezag a v r s) {l : List xV} (h2 : ezsS a v l = true) : l.map (ezdv r) = l.map (ezdv s) := by
  apply List.map_congr_left
  intro q hq
  show (q.1, ezden r q.2) = (q.1, ezden s q.2)
  rw [ezsco_s h _ (List.all_eq_true.mp h2 q hq)]
theorem ezsF_s {a v : Nat} (h : ezag a v r s) {l : xF} (h2 : ezsF a v l = true) (h3 : ∀ q ∈ l, q.2.1 ≤ ezden r q.1 ∧ ezden r q.1 ≤ q.2.2) : ∀ q ∈ l, q.2.1 ≤ ezden s q.1 ∧ ezden s q.1 ≤ q.2.2 := by
  intro q hq
  rw [← ezsco_s h _ (List.all_eq_true.mp h2 q hq)]
  exact h3 q hq
theorem ezsY_s {a v : Nat} (h : ezag a v r s) (h0 : 0 < v) : ∀ {l : List ezLy}, ezsY a v l = true → ezhh r l = ezhh s l := by
  intro l
  induction l with
  | nil => intro _; exact h.2.1 0 h0
  | cons w l ih =>
    intro h2
    unfold ezsY at h2
    rw [List.all_cons, Bool.and_eq_true] at h2
    have ih := ih h2.2
    obtain ⟨t, w, m⟩ := w
    cases t with
    | zero =>
      have h3 : (ezsco a v w.1 && (ezsco a v w.2.1 && ezsco a v w.2.2)) = true := h2.1
      rw [Bool.and_eq_true, Bool.and_eq_true] at h3
      show ezwr (ezhh r l) (ezden r w.1) (ezden r w.2.1) (ezden r w.2.2) = ezwr (ezhh s l) (ezden s w.1) (ezden s w.2.1) (ezden s w.2.2)
      rw [ih, ezsco_s h _ h3.1, ezsco_s h _ h3.2.1, ezsco_s h _ h3.2.2]
    | succ k =>
      have h3 : Nat.blt k v = true := h2.1
      show (fun a j => bif Nat.testBit m (ezlc a j) then r.2.1 k a j else ezhh r l a j) = (fun a j => bif Nat.testBit m (ezlc a j) then s.2.1 k a j else ezhh s l a j)
      rw [ih, h.2.1 k (Nat.ble_eq.mp h3)]
theorem ezsW_s {a v : Nat} (h : ezag a v r s) {l : List xFr} (h2 : ezsW a v l = true) : ezdS r l = ezdS s l := by
  unfold ezdS
  apply List.map_congr_left
  intro f hf
  have h3 := List.all_eq_true.mp h2 f hf
  rw [Bool.and_eq_true] at h3
  rw [ezsL_s h h3.1, ezsS_s h h3.2, h.2.2]
/-- one number and one version anew -/
def ezfr (r : ezR) (N : Nat) (x : Int) (n : Nat) (H : Int → Int → Int) : ezR := (fun i => if i = N then x else r.1 i, fun w => if w = n then H else r.2.1 w, r.2.2)
theorem ezfr_ag {a v N n : Nat} {x : Int} {H : Int → Int → Int} (h1 : a ≤ N) (h2 : N % 64 ≠ 0) (h3 : v ≤ n) : ezag a v (ezfr r N x n H) r := by
  refine ⟨fun i hi => if_neg (fun e => ?_), fun w hw => if_neg (fun e => ?_), rfl⟩
  · rcases hi with hi | hi
    · omega
    · rw [e] at hi; exact h2 hi
  · omega
theorem ezag_s {a v : Nat} (h : ezag a v r s) : ezag a v s r := ⟨fun i hi => (h.1 i hi).symm, fun w hw => (h.2.1 w hw).symm, h.2.2.symm⟩
end EZ9
