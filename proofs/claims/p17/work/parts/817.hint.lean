noncomputable section EZB6
/-! E2: facts told at places of a method's own: each kind is shown here once, for all values -/
variable {Q : ezR → Prop} {T : ycT} {r : ezR} {F : xF}
abbrev ezHts := List (Nat × List (Nat × List xjE))
theorem ezsh1 : ∀ n : Fin 30, xop 20 1 ((n.val : Int) + 1) = 2 * xop 20 1 (n.val : Int) := by decide +kernel
theorem ezhm2 {a b c : Int} (h : 0 ≤ b - a) (hc : 0 ≤ c) : 0 ≤ b * c - a * c := by
  have := Int.mul_le_mul_of_nonneg_right (show a ≤ b by omega) hc
  omega
/-- a fact by its kind, where what it asks is seen -/
def ezhc (k : Nat) (es : List xjE) (F : xF) (K : xF → Bool) : Bool := match es with
  | [e] => bif Nat.beq k 1 then (bif ezbd F e 0 29 then ezpt F (.sub (xbin 20 (.num 1) (xlinc e 1)) (.mul (.num 2) (xbin 20 (.num 1) e))) 0 0 K else K F)
    else bif Nat.beq k 3 then (bif xle ((eziv F e).2 - (eziv F e).1) 64 then ezenum F e (fun F _ => K F) else K F)
    else bif Nat.beq k 4 then (ezlt F e 0).all (fun q => ezctra q.2 || K q.2) else K F
  | [a, b] => bif Nat.beq k 5 && ezbd F (.sub a b) 0 0 then ezpt F (.sub (xbin 20 (.num 1) a) (xbin 20 (.num 1) b)) 0 0 K else K F
  | [a, b, c] => bif Nat.beq k 2 && (ezblo F (.sub b a) 0 && ezblo F c 0) then xfi (eziv F (.sub (ezml b c) (ezml a c))).2 (fun u => ezpt F (.sub (ezml b c) (ezml a c)) 0 u K) else K F
  | _ => K F
theorem ezhc_s (H : ezH Q r F) {k : Nat} {es : List xjE} {K : xF → Bool} (h : ezhc k es F K = true) : ∃ F2, ezH Q r F2 ∧ K F2 = true := by
  unfold ezhc at h
  split at h
  · rename_i e
    revert h
    cases Nat.beq k 1 with
    | true =>
      simp only [cond_true]
      cases hb : ezbd F e 0 29 with
      | false => intro h; exact ⟨F, H, h⟩
      | true =>
        simp only [cond_true]
        intro h
        have b := ezbd_s H hb
        have e1 : ezden r (xbin 20 (.num 1) (xlinc e 1)) = xop 20 1 (ezden r e + 1) := by
          rw [ezbin_s, ezlinc_s]; rfl
        have e2 : ezden r (xbin 20 (.num 1) e) = xop 20 1 (ezden r e) := by
          rw [ezbin_s]; rfl
        have q := ezsh1 ⟨(ezden r e).toNat, by omega⟩
        have q : xop 20 1 (((ezden r e).toNat : Int) + 1) = 2 * xop 20 1 ((ezden r e).toNat : Int) := q
        rw [Int.toNat_of_nonneg b.1, ← e1, ← e2] at q
        have d : ezden r (.sub (xbin 20 (.num 1) (xlinc e 1)) (.mul (.num 2) (xbin 20 (.num 1) e))) = ezden r (xbin 20 (.num 1) (xlinc e 1)) - 2 * ezden r (xbin 20 (.num 1) e) := rfl
        exact ezpt_s H h (by rw [d]; omega) (by rw [d]; omega)
    | false =>
      simp only [cond_false]
      cases Nat.beq k 3 with
      | true =>
        simp only [cond_true]
        cases xle ((eziv F e).2 - (eziv F e).1) 64 with
        | false => intro h; exact ⟨F, H, h⟩
        | true =>
          simp only [cond_true]
          intro h
          obtain ⟨F2, H2, h2⟩ := ezenum_s H h
          exact ⟨F2, H2, h2⟩
      | false =>
        simp only [cond_false]
        cases Nat.beq k 4 with
        | false => intro h; exact ⟨F, H, h⟩
        | true =>
          simp only [cond_true]
          intro h
          obtain ⟨q, hq, H2, -⟩ := ezlt_s H e 0
          have h2 := List.all_eq_true.mp h q hq
          rw [ezctra_s H2, Bool.false_or] at h2
          exact ⟨q.2, H2, h2⟩
  · rename_i a b
    revert h
    cases hb : Nat.beq k 5 && ezbd F (.sub a b) 0 0 with
    | false => intro h; exact ⟨F, H, h⟩
    | true =>
      simp only [cond_true]
      intro h
      rw [Bool.and_eq_true] at hb
      have d := ezbd_s H hb.2
      have d : 0 ≤ ezden r a - ezden r b ∧ ezden r a - ezden r b ≤ 0 := d
      have e : ezden r a = ezden r b := by omega
      have e2 : ezden r (.sub (xbin 20 (.num 1) a) (xbin 20 (.num 1) b)) = 0 := by
        show ezden r (xbin 20 (.num 1) a) - ezden r (xbin 20 (.num 1) b) = 0
        rw [ezbin_s, ezbin_s, e]
        exact Int.sub_self _
      exact ezpt_s H h (by rw [e2]; decide) (by rw [e2]; decide)
  · rename_i a b c
    revert h
    cases hb : Nat.beq k 2 && (ezblo F (.sub b a) 0 && ezblo F c 0) with
    | false => intro h; exact ⟨F, H, h⟩
    | true =>
      simp only [cond_true, xfi_s]
      intro h
      rw [Bool.and_eq_true, Bool.and_eq_true] at hb
      have d : 0 ≤ ezden r b - ezden r a := ezblo_s H hb.2.1
      have d2 := ezblo_s H hb.2.2
      have e2 : ezden r (.sub (ezml b c) (ezml a c)) = ezden r b * ezden r c - ezden r a * ezden r c := by
        show ezden r (ezml b c) - ezden r (ezml a c) = _
        rw [ezml_s, ezml_s]
      have iv := eziv_s H (.sub (ezml b c) (ezml a c))
      exact ezpt_s H h (by rw [e2]; exact ezhm2 d d2) iv.2
  · exact ⟨F, H, h⟩
def ezhev (l : List (Nat × xjE)) (L1 : List ezLy) : List xjE → xF → (xF → List xjE → Bool) → Bool
  | [], F, k => k F []
  | p :: ps, F, k => ezev l [] L1 p F (fun F e => ezhev l L1 ps F (fun F es => k F (e :: es)))
theorem ezhev_s {l : List (Nat × xjE)} {L1 : List ezLy} : ∀ (ps : List xjE) {F : xF} {k : xF → List xjE → Bool}, ezH Q r F → ezhev l L1 ps F k = true → ∃ F2 es, ezH Q r F2 ∧ k F2 es = true := by
  intro ps
  induction ps with
  | nil => intro F k H h; exact ⟨F, [], H, h⟩
  | cons p ps ih =>
    intro F k H h
    unfold ezhev at h
    obtain ⟨F2, e, H2, h2, -⟩ := ezev_s (ezrs_sb (r := r) (l := l) (L0 := []) (L1 := L1) (b := r.2.2)) p H h
    obtain ⟨F3, es, H3, h3⟩ := ih H2 h2
    exact ⟨F3, e :: es, H3, h3⟩
def ezhts (l : List (Nat × xjE)) (L1 : List ezLy) : List (Nat × List xjE) → xF → (xF → Bool) → Bool
  | [], F, k => k F
  | q :: qs, F, k => ezhev l L1 q.2 F (fun F es => ezhc q.1 es F (fun F => ezhts l L1 qs F k))
theorem ezhts_s {l : List (Nat × xjE)} {L1 : List ezLy} : ∀ (qs : List (Nat × List xjE)) {F : xF} {k : xF → Bool}, ezH Q r F → ezhts l L1 qs F k = true → ∃ F2, ezH Q r F2 ∧ k F2 = true := by
  intro qs
  induction qs with
  | nil => intro F k H h; exact ⟨F, H, h⟩
  | cons q qs ih =>
    intro F k H h
    unfold ezhts at h
    obtain ⟨F2, es, H2, h2⟩ := ezhev_s q.2 H h
    obtain ⟨F3, H3, h3⟩ := ezhc_s H2 h2
    exact ih H3 h3
/-- what is told at a place -/
def ezhtl (W : ezHts) (pc : Nat) : List (Nat × List xjE) := List.rec (motive := fun _ => List (Nat × List xjE)) [] (fun q _ ih => bif Nat.beq q.1 pc then q.2 else ih) W
/-- locals and stack as numbers of a pattern -/
def ezhst (i : Nat) : List xV → List (Nat × xjE)
  | [] => []
  | v :: l => (4096 + 64 * i + 22, v.2) :: ezhst (i + 1) l
def ezhl (lv : List (Nat × xV)) (st : List xV) : List (Nat × xjE) := lv.map (fun q => (4096 + 64 * q.1 + 22, q.2.2)) ++ ezhst 40 st
def ezht (W : ezHts) (fr : Nat × List (Nat × xV) × List xV) (L1 : List ezLy) (F : xF) (k : xF → Bool) : Bool := match ezhtl W fr.1 with
  | [] => k F
  | q :: qs => ezhts (ezhl fr.2.1 fr.2.2) L1 (q :: qs) F k
theorem ezht_s (H : ezH Q r F) {W : ezHts} {fr : Nat × List (Nat × xV) × List xV} {L1 : List ezLy} {k : xF → Bool} (h : ezht W fr L1 F k = true) : ∃ F2, ezH Q r F2 ∧ k F2 = true := by
  unfold ezht at h
  split at h
  · exact ⟨F, H, h⟩
  · exact ezhts_s _ H h
end EZB6
