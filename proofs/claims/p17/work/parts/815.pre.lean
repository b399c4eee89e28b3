noncomputable section EZB5
/-! E2: what is known ahead of a step: divisions and shifts by a number, indices of references -/
variable {Q : ezR → Prop} {T : ycT} {r : ezR} {F : xF}
theorem ezdq {x c : Int} (h0 : 0 ≤ x) (h1 : x ≤ 2147483647) (c1 : 2 ≤ c) (c2 : c ≤ 2147483647) : ycI 7 x c = x / c ∧ ycI 8 x c = x % c := by
  have e7 : ycI 7 x c = ((x.toNat / c.toNat : Nat) : Int) := by
    show (Int32.ofInt x / Int32.ofInt c).toInt = _
    rw [xofn (v := x) (by omega) (by omega), xofn (v := c) (by omega) (by omega), pk_div (by omega) (by omega) (by omega)]
    exact nI_toInt (Nat.lt_of_le_of_lt (Nat.div_le_self _ _) (by omega))
  have e8 : ycI 8 x c = ((x.toNat % c.toNat : Nat) : Int) := by
    show (Int32.ofInt x - Int32.ofInt x / Int32.ofInt c * Int32.ofInt c).toInt = _
    rw [xofn (v := x) (by omega) (by omega), xofn (v := c) (by omega) (by omega), pk_rem (by omega) (by omega) (by omega)]
    exact nI_toInt (Nat.lt_of_le_of_lt (Nat.mod_le _ _) (by omega))
  rw [e7, e8, Int.natCast_ediv, Int.natCast_emod, Int.toNat_of_nonneg h0, Int.toNat_of_nonneg (by omega)]
  exact ⟨rfl, rfl⟩
/-- a number above 0 is more than a part of it -/
def ezpqt (F : xF) (a q : xjE) (k : xF → Bool) : Bool := bif xle 1 (eziv F a).1 then xfi (eziv F a).2 (fun h => ezpt F (.sub a q) 1 h k) else k F
theorem ezpqt_s (H : ezH Q r F) {a q : xjE} {k : xF → Bool} (h : ezpqt F a q k = true) (hq : 1 ≤ ezden r a → 0 ≤ ezden r q ∧ ezden r q + 1 ≤ ezden r a) : ∃ F2, ezH Q r F2 ∧ k F2 = true := by
  have ha := eziv_s H a
  unfold ezpqt at h
  cases b : xle 1 (eziv F a).1 with
  | false => rw [b] at h; exact ⟨F, H, h⟩
  | true =>
    rw [b] at h
    rw [xle_iff] at b
    simp only [cond_true, xfi_s] at h
    have := hq (by omega)
    exact ezpt_s H h (by show 1 ≤ ezden r a - ezden r q; omega) (by show ezden r a - ezden r q ≤ _; omega)
def ezpdv (F : xF) (a : xjE) (c : Int) (k : xF → Bool) : Bool := bif xle 2 c && (xle c 2147483647 && (xle 0 (eziv F a).1 && xle (eziv F a).2 2147483647)) then ezpt F (.sub a (.mul (.num c) (xbin 23 a (.num c)))) 0 (c - 1) (fun F => ezpqt F a (xbin 23 a (.num c)) k) else k F
def ezprm (F : xF) (a : xjE) (c : Int) (k : xF → Bool) : Bool := bif xle 2 c && (xle c 2147483647 && (xle 0 (eziv F a).1 && xle (eziv F a).2 2147483647)) then ezpt F (.sub a (.mul (.num c) (xbin 23 a (.num c)))) 0 (c - 1) (fun F => bif xle ((eziv F a).2 + 1) c then k F else ezpt F (.sub (.sub a (.mul (.num c) (xbin 23 a (.num c)))) (xbin 24 a (.num c))) 0 0 (fun F => xfi (c * ((eziv F a).2 / c)) (fun h => ezpt F (.sub a (xbin 24 a (.num c))) 0 h k))) else k F
def ezpsh (F : xF) (a : xjE) (c : Int) (k : xF → Bool) : Bool := bif xle 1 c && (xle c 30 && xr32 (eziv F a)) then xfi (ezp2 c) (fun p => ezpt F (.sub a (.mul (.num p) (xbin 21 a (.num c)))) 0 (p - 1) (fun F => ezpqt F a (xbin 21 a (.num c)) k)) else k F
def ezpix (F : xF) (i a : xjE) (k : xF → Bool) : Bool := match ezvals F a with
  | [] => k F
  | x :: l => xfi (ezmn (fun n => (ezL n : Int)) x l - 1) (fun n => bif xle 0 (eziv F i).1 && xle (eziv F i).2 n then k F else bif ezbd F i 0 n then xfi (xmx 0 (eziv F i).1) (fun u => xfi (xmn n (eziv F i).2) (fun v => k (ezput F i u v))) else k F)
def ezpre (ins : Instr) (st : List xV) (F : xF) (k : xF → Bool) : Bool := match ins with
  | .idiv => (match st with
    | (_, .num c) :: (_, a) :: _ => (match a with | .num _ => k F | a => ezpdv F a c k)
    | _ => k F)
  | .irem => (match st with
    | (_, .num c) :: (_, a) :: _ => (match a with | .num _ => k F | a => ezprm F a c k)
    | _ => k F)
  | .ishr => (match st with
    | (_, .num c) :: (_, a) :: _ => (match a with | .num _ => k F | a => ezpsh F a c k)
    | _ => k F)
  | .aaload => (match st with
    | (_, i) :: (_, a) :: _ => (match i with | .num _ => k F | i => ezpix F i a k)
    | _ => k F)
  | _ => k F
theorem ezpdv_s (H : ezH Q r F) {a : xjE} {c : Int} {k : xF → Bool} (h : ezpdv F a c k = true) : ∃ F2, ezH Q r F2 ∧ k F2 = true := by
  have ha := eziv_s H a
  unfold ezpdv at h
  cases b : xle 2 c && (xle c 2147483647 && (xle 0 (eziv F a).1 && xle (eziv F a).2 2147483647)) with
  | false => rw [b] at h; exact ⟨F, H, h⟩
  | true =>
    rw [b] at h
    simp only [cond_true] at h
    simp only [Bool.and_eq_true, xle_iff] at b
    obtain ⟨b1, b2, b3, b4⟩ := b
    have q := (ezdq (x := ezden r a) (c := c) (by omega) (by omega) b1 b2).1
    have e : ezden r (.sub a (.mul (.num c) (xbin 23 a (.num c)))) = ezden r a - c * (ezden r a / c) := by
      show ezden r a - c * ezden r (xbin 23 a (.num c)) = _
      rw [ezbin_s, ← q]; rfl
    have m1 := Int.emod_nonneg (ezden r a) (show c ≠ 0 by omega)
    have m2 := Int.emod_lt_of_pos (ezden r a) (show 0 < c by omega)
    have m3 := Int.emod_def (ezden r a) c
    obtain ⟨F2, H2, h2⟩ := ezpt_s H h (by rw [e]; omega) (by rw [e]; omega)
    refine ezpqt_s H2 h2 (fun h9 => ?_)
    have e9 : ezden r (xbin 23 a (.num c)) = ezden r a / c := by rw [ezbin_s, ← q]; rfl
    rw [e9]
    have m4 := Int.ediv_nonneg (show 0 ≤ ezden r a by omega) (show 0 ≤ c by omega)
    have m5 : 2 * (ezden r a / c) ≤ c * (ezden r a / c) := Int.mul_le_mul_of_nonneg_right b1 m4
    omega
theorem ezprm_s (H : ezH Q r F) {a : xjE} {c : Int} {k : xF → Bool} (h : ezprm F a c k = true) : ∃ F2, ezH Q r F2 ∧ k F2 = true := by
  have ha := eziv_s H a
  unfold ezprm at h
  cases b : xle 2 c && (xle c 2147483647 && (xle 0 (eziv F a).1 && xle (eziv F a).2 2147483647)) with
  | false => rw [b] at h; exact ⟨F, H, h⟩
  | true =>
    rw [b] at h
    simp only [cond_true] at h
    simp only [Bool.and_eq_true, xle_iff] at b
    obtain ⟨b1, b2, b3, b4⟩ := b
    have q := ezdq (x := ezden r a) (c := c) (by omega) (by omega) b1 b2
    have e : ezden r (.sub a (.mul (.num c) (xbin 23 a (.num c)))) = ezden r a - c * (ezden r a / c) := by
      show ezden r a - c * ezden r (xbin 23 a (.num c)) = _
      rw [ezbin_s, ← q.1]; rfl
    have e2 : ezden r (.sub (.sub a (.mul (.num c) (xbin 23 a (.num c)))) (xbin 24 a (.num c))) = ezden r a - c * (ezden r a / c) - ezden r a % c := by
      show ezden r (.sub a (.mul (.num c) (xbin 23 a (.num c)))) - ezden r (xbin 24 a (.num c)) = _
      rw [e, ezbin_s, ← q.2]; rfl
    have m1 := Int.emod_nonneg (ezden r a) (show c ≠ 0 by omega)
    have m2 := Int.emod_lt_of_pos (ezden r a) (show 0 < c by omega)
    have m3 := Int.emod_def (ezden r a) c
    obtain ⟨F2, H2, h2⟩ := ezpt_s H h (by rw [e]; omega) (by rw [e]; omega)
    cases b5 : xle ((eziv F2 a).2 + 1) c with
    | true => rw [b5] at h2; exact ⟨F2, H2, h2⟩
    | false =>
      rw [b5] at h2
      simp only [cond_false] at h2
      obtain ⟨F3, H3, h3⟩ := ezpt_s H2 h2 (by rw [e2]; omega) (by rw [e2]; omega)
      rw [xfi_s] at h3
      have e3 : ezden r (.sub a (xbin 24 a (.num c))) = ezden r a - ezden r a % c := by
        show ezden r a - ezden r (xbin 24 a (.num c)) = _
        rw [ezbin_s, ← q.2]; rfl
      have g1 := (eziv_s H3 a).2
      have g2 := Int.ediv_le_ediv (show 0 < c by omega) g1
      have g3 := Int.mul_le_mul_of_nonneg_left g2 (show 0 ≤ c by omega)
      have g4 := Int.ediv_nonneg (show 0 ≤ ezden r a by omega) (show 0 ≤ c by omega)
      have g5 := Int.mul_nonneg (show 0 ≤ c by omega) g4
      exact ezpt_s H3 h3 (by rw [e3]; omega) (by rw [e3]; omega)
theorem ezpsh_s (H : ezH Q r F) {a : xjE} {c : Int} {k : xF → Bool} (h : ezpsh F a c k = true) : ∃ F2, ezH Q r F2 ∧ k F2 = true := by
  have ha := eziv_s H a
  unfold ezpsh at h
  cases b : xle 1 c && (xle c 30 && xr32 (eziv F a)) with
  | false => rw [b] at h; exact ⟨F, H, h⟩
  | true =>
    rw [b] at h
    unfold xr32 at b
    simp only [Bool.and_eq_true, xle_iff] at b
    obtain ⟨b1, b2, b3, b4⟩ := b
    simp only [cond_true, xfi_s] at h
    have hs : ((Int32.ofInt c &&& 31).toBitVec.smod 32).toNat = c.toNat := by
      have := ezs31 (k := c.toNat) (by omega)
      rw [Int.toNat_of_nonneg (by omega)] at this
      exact this
    have ex : (Int32.ofInt (ezden r a)).toInt = ezden r a := y32_id (by omega) (by omega)
    have e0 : xop 21 (ezden r a) c = ezden r a / ezp2 c := by
      show (Int32.ofInt (ezden r a) >>> (Int32.ofInt c &&& 31)).toInt = _
      rw [pk_shr _ _ _ hs, ex, Int.shiftRight_eq_div_pow]
      rfl
    have e : ezden r (.sub a (.mul (.num (ezp2 c)) (xbin 21 a (.num c)))) = ezden r a - ezp2 c * (ezden r a / ezp2 c) := by
      show ezden r a - ezp2 c * ezden r (xbin 21 a (.num c)) = _
      rw [ezbin_s, ← e0]; rfl
    have hp := (ezp2_s (Int.le_refl c)).2
    have m1 := Int.emod_nonneg (ezden r a) (show ezp2 c ≠ 0 by omega)
    have m2 := Int.emod_lt_of_pos (ezden r a) hp
    have m3 := Int.emod_def (ezden r a) (ezp2 c)
    obtain ⟨F2, H2, h2⟩ := ezpt_s H h (by rw [e]; omega) (by rw [e]; omega)
    refine ezpqt_s H2 h2 (fun h9 => ?_)
    have e9 : ezden r (xbin 21 a (.num c)) = ezden r a / ezp2 c := by rw [ezbin_s, ← e0]; rfl
    rw [e9]
    have p2 : 2 ≤ ezp2 c := (ezp2_s b1).1
    have m4 := Int.ediv_nonneg (show 0 ≤ ezden r a by omega) (show 0 ≤ ezp2 c by omega)
    have m5 : 2 * (ezden r a / ezp2 c) ≤ ezp2 c * (ezden r a / ezp2 c) := Int.mul_le_mul_of_nonneg_right p2 m4
    omega
theorem ezpix_s (H : ezH Q r F) {i a : xjE} {k : xF → Bool} (h : ezpix F i a k = true) : ∃ F2, ezH Q r F2 ∧ k F2 = true := by
  unfold ezpix at h
  split at h
  · exact ⟨F, H, h⟩
  · rename_i x l ev
    rw [xfi_s] at h
    have hi := eziv_s H i
    revert h
    cases xle 0 (eziv F i).1 && xle (eziv F i).2 (ezmn (fun n => (ezL n : Int)) x l - 1) with
    | true => intro h; exact ⟨F, H, h⟩
    | false =>
      simp only [cond_false]
      cases b : ezbd F i 0 (ezmn (fun n => (ezL n : Int)) x l - 1) with
      | false => intro h; exact ⟨F, H, h⟩
      | true =>
        simp only [cond_true, xfi_s]
        intro h
        have d := ezbd_s H b
        have m1 := xmx_s 0 (eziv F i).1
        have m2 := xmn_s (ezmn (fun n => (ezL n : Int)) x l - 1) (eziv F i).2
        exact ⟨_, ezHpt H (by omega) (by omega), h⟩
theorem ezpre_s (H : ezH Q r F) {ins : Instr} {st : List xV} {k : xF → Bool} (h : ezpre ins st F k = true) : ∃ F2, ezH Q r F2 ∧ k F2 = true := by
  unfold ezpre at h
  split at h
  · split at h
    · split at h
      · exact ⟨F, H, h⟩
      · exact ezpdv_s H h
    · exact ⟨F, H, h⟩
  · split at h
    · split at h
      · exact ⟨F, H, h⟩
      · exact ezprm_s H h
    · exact ⟨F, H, h⟩
  · split at h
    · split at h
      · exact ⟨F, H, h⟩
      · exact ezpsh_s H h
    · exact ⟨F, H, h⟩
  · split at h
    · split at h
      · exact ⟨F, H, h⟩
      · exact ezpix_s H h
    · exact ⟨F, H, h⟩
  · exact ⟨F, H, h⟩
end EZB5
