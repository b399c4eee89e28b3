noncomputable section EZ9
/-! E2: patterns and what they come to in a state; ranges kept; what a state speaks of -/
variable {Q : ezR → Prop} {T : ycT} {r s : ezR} {F : xF}
def ezlo (l : List (Nat × xjE)) (i : Nat) : Option xjE := List.rec (motive := fun _ => Option xjE) none (fun q _ ih => bif Nat.beq q.1 i then some q.2 else ih) l
/-- a difference, a product -/
def ezdf (a b : xjE) : xjE := match b with
  | .num z => xlinc a (-z)
  | b => .sub a b
theorem ezdf_s (r : ezR) (a b : xjE) : ezden r (ezdf a b) = ezden r a - ezden r b := by
  unfold ezdf
  split
  · rw [ezlinc_s]; rfl
  · rfl
def ezml (a b : xjE) : xjE := match a with
  | .num z => ezsc z b
  | a => (match b with
    | .num z => ezsc z a
    | b => .mul a b)
theorem ezml_s (r : ezR) (a b : xjE) : ezden r (ezml a b) = ezden r a * ezden r b := by
  unfold ezml
  split
  · rw [ezsc_s]; rfl
  · split
    · rw [ezsc_s, Int.mul_comm]; rfl
    · rfl
/-- an operation, the greater and the smaller told where they are known -/
def ezmm (F : xF) (v : Nat) (a b : xjE) : xjE := bif Nat.beq v 80 then ezmaxs F a b else bif Nat.beq v 96 then ezmins F a b else xbin v a b
theorem ezmm_s (H : ezH Q r F) (v : Nat) (a b : xjE) : ezden r (ezmm F v a b) = xop v (ezden r a) (ezden r b) := by
  unfold ezmm
  cases h : Nat.beq v 80 with
  | true => rw [Nat.eq_of_beq_eq_true h]; exact ezmaxs_s H a b
  | false =>
    simp only [cond_false]
    cases h2 : Nat.beq v 96 with
    | true => rw [Nat.eq_of_beq_eq_true h2]; exact ezmins_s H a b
    | false => exact ezbin_s r v a b
/-- a pattern's worth: l what stands for its numbers, versions 0 and 1 are the heaps of L0 and L1 -/
def ezev (l : List (Nat × xjE)) (L0 L1 : List ezLy) : xjE → xF → (xF → xjE → Bool) → Bool
  | .num z, F, k => k F (.num z)
  | .var i, F, k => (match ezlo l i with
    | some e => k F e
    | none => Nat.blt i 4096 && k F (ezcon F (.var i)))
  | .add a b, F, k => ezev l L0 L1 a F (fun F a => ezev l L0 L1 b F (fun F b => xfe (xlin a b) (fun e => k F e)))
  | .sub a b, F, k => ezev l L0 L1 a F (fun F a => ezev l L0 L1 b F (fun F b => xfe (ezdf a b) (fun e => k F e)))
  | .neg a, F, k => ezev l L0 L1 a F (fun F a => xfe (ezsc (-1) a) (fun e => k F e))
  | .mul a b, F, k => ezev l L0 L1 a F (fun F a => ezev l L0 L1 b F (fun F b => xfe (ezml a b) (fun e => k F e)))
  | .pow (.mul c j) v, F, k => ezev l L0 L1 c F (fun F c => ezev l L0 L1 j F (fun F j => bif Nat.beq v 0 then ezget F L0 c j k else Nat.beq v 1 && ezget F L1 c j k))
  | .pow (.add a b) v, F, k => ezev l L0 L1 a F (fun F a => ezev l L0 L1 b F (fun F b => xfe (ezmm F v a b) (fun e => k F e)))
  | .pow (.neg a) v, F, k => ezev l L0 L1 a F (fun F a => xfe (xun v a) (fun e => k F e))
  | _, _, _ => false
/-- what a pattern speaks of (s) and a state (r) -/
def ezsb (r s : ezR) (l : List (Nat × xjE)) (L0 L1 : List ezLy) : Prop := (∀ i e, ezlo l i = some e → s.1 i = ezden r e) ∧ (∀ i, ezlo l i = none → i < 4096 → s.1 i = r.1 i) ∧ s.2.1 0 = ezhh r L0 ∧ s.2.1 1 = ezhh r L1
theorem ezev_s {l : List (Nat × xjE)} {L0 L1 : List ezLy} (hs : ezsb r s l L0 L1) : ∀ (t : xjE) {F : xF} {k : xF → xjE → Bool}, ezH Q r F → ezev l L0 L1 t F k = true → ∃ F2 e, ezH Q r F2 ∧ k F2 e = true ∧ ezden r e = ezden s t
  | .num z, F, k, H, h => ⟨F, _, H, h, rfl⟩
  | .var i, F, k, H, h => by
      unfold ezev at h
      split at h
      · rename_i e he
        exact ⟨F, e, H, h, (hs.1 i e he).symm⟩
      · rename_i he
        rw [Bool.and_eq_true] at h
        exact ⟨F, _, H, h.2, by rw [ezcon_s H]; exact (hs.2.1 i he (Nat.ble_eq.mp h.1)).symm⟩
  | .add a b, F, k, H, h => by
      unfold ezev at h
      obtain ⟨F2, e, h1, h2, h3⟩ := ezev_s hs a H h
      obtain ⟨F3, e2, h4, h5, h6⟩ := ezev_s hs b h1 h2
      rw [xfe_s] at h5
      exact ⟨F3, _, h4, h5, by rw [ezlin_s, h3, h6]; rfl⟩
  | .sub a b, F, k, H, h => by
      unfold ezev at h
      obtain ⟨F2, e, h1, h2, h3⟩ := ezev_s hs a H h
      obtain ⟨F3, e2, h4, h5, h6⟩ := ezev_s hs b h1 h2
      rw [xfe_s] at h5
      exact ⟨F3, _, h4, h5, by rw [ezdf_s, h3, h6]; rfl⟩
  | .neg a, F, k, H, h => by
      unfold ezev at h
      obtain ⟨F2, e, h1, h2, h3⟩ := ezev_s hs a H h
      rw [xfe_s] at h2
      exact ⟨F2, _, h1, h2, by rw [ezsc_s, h3]; show -1 * ezden s a = - ezden s a; omega⟩
  | .mul a b, F, k, H, h => by
      unfold ezev at h
      obtain ⟨F2, e, h1, h2, h3⟩ := ezev_s hs a H h
      obtain ⟨F3, e2, h4, h5, h6⟩ := ezev_s hs b h1 h2
      rw [xfe_s] at h5
      exact ⟨F3, _, h4, h5, by rw [ezml_s, h3, h6]; rfl⟩
  | .pow (.mul c j) v, F, k, H, h => by
      unfold ezev at h
      obtain ⟨F2, e, h1, h2, h3⟩ := ezev_s hs c H h
      obtain ⟨F3, e2, h4, h5, h6⟩ := ezev_s hs j h1 h2
      cases hv : Nat.beq v 0 with
      | true =>
        rw [hv] at h5
        obtain ⟨F4, e3, a1, a2, a3⟩ := ezget_s h4 h5
        refine ⟨F4, e3, a1, a2, ?_⟩
        rw [a3, Nat.eq_of_beq_eq_true hv, h3, h6, ← hs.2.2.1]
        rfl
      | false =>
        rw [hv] at h5
        simp only [cond_false, Bool.and_eq_true] at h5
        obtain ⟨F4, e3, a1, a2, a3⟩ := ezget_s h4 h5.2
        refine ⟨F4, e3, a1, a2, ?_⟩
        rw [a3, Nat.eq_of_beq_eq_true h5.1, h3, h6, ← hs.2.2.2]
        rfl
  | .pow (.add a b) v, F, k, H, h => by
      unfold ezev at h
      obtain ⟨F2, e, h1, h2, h3⟩ := ezev_s hs a H h
      obtain ⟨F3, e2, h4, h5, h6⟩ := ezev_s hs b h1 h2
      rw [xfe_s] at h5
      exact ⟨F3, _, h4, h5, by rw [ezmm_s h4, h3, h6]; rfl⟩
  | .pow (.neg a) v, F, k, H, h => by
      unfold ezev at h
      obtain ⟨F2, e, h1, h2, h3⟩ := ezev_s hs a H h
      rw [xfe_s] at h2
      exact ⟨F2, _, h1, h2, by rw [ezun_s, h3]; rfl⟩
  | .natCast _, F, k, H, h => by unfold ezev at h; cases h
  | .intCast _, F, k, H, h => by unfold ezev at h; cases h
  | .pow (.num _) _, F, k, H, h => by unfold ezev at h; cases h
  | .pow (.natCast _) _, F, k, H, h => by unfold ezev at h; cases h
  | .pow (.intCast _) _, F, k, H, h => by unfold ezev at h; cases h
  | .pow (.var _) _, F, k, H, h => by unfold ezev at h; cases h
  | .pow (.sub _ _) _, F, k, H, h => by unfold ezev at h; cases h
  | .pow (.pow _ _) _, F, k, H, h => by unfold ezev at h; cases h
/-- facts that are shown -/
def ezchk (l : List (Nat × xjE)) (L0 L1 : List ezLy) : xF → xF → (xF → Bool) → Bool
  | [], F, k => k F
  | q :: fs, F, k => ezev l L0 L1 q.1 F (fun F2 e => ezbd F2 e q.2.1 q.2.2 && ezchk l L0 L1 fs F2 k)
theorem ezchk_s {l : List (Nat × xjE)} {L0 L1 : List ezLy} (hs : ezsb r s l L0 L1) : ∀ (fs : xF) {F : xF} {k : xF → Bool}, ezH Q r F → ezchk l L0 L1 fs F k = true → ∃ F2, ezH Q r F2 ∧ k F2 = true ∧ ∀ q ∈ fs, q.2.1 ≤ ezden s q.1 ∧ ezden s q.1 ≤ q.2.2 := by
  intro fs
  induction fs with
  | nil => intro F k H h; exact ⟨F, H, h, fun q hq => by cases hq⟩
  | cons q fs ih =>
    intro F k H h
    unfold ezchk at h
    obtain ⟨F2, e, h1, h2, h3⟩ := ezev_s hs q.1 H h
    rw [Bool.and_eq_true] at h2
    obtain ⟨F3, h4, h5, h6⟩ := ih h1 h2.2
    have b := ezbd_s h1 h2.1
    rw [h3] at b
    exact ⟨F3, h4, h5, fun z hz => (List.mem_cons.mp hz).elim (fun e => by rw [e]; exact b) (h6 z)⟩
/-- facts that are taken up -/
def ezfact (F : xF) (e : xjE) (lo hi : Int) (k : xF → Bool) : Bool := match e with
  | .num z => bif xle lo z && xle z hi then k F else true
  | e => bif xle lo (eziv F e).1 && xle (eziv F e).2 hi then k F else bif !(xle (xmx lo (eziv F e).1) (xmn hi (eziv F e).2)) then true else xfi (xpe e (xmx lo (eziv F e).1)).2 (fun a => xfi (xpe e (xmn hi (eziv F e).2)).2 (fun b => k (ezput F (xpe e 0).1 a b)))
theorem ezxpe1 (e : xjE) (c d : Int) : (xpe e c).1 = (xpe e d).1 := by
  unfold xpe
  split <;> rfl
theorem ezfact_s (H : ezH Q r F) {e : xjE} {lo hi : Int} {k : xF → Bool} (h : ezfact F e lo hi k = true) (hb : lo ≤ ezden r e ∧ ezden r e ≤ hi) : ∃ F2, ezH Q r F2 ∧ k F2 = true := by
  unfold ezfact at h
  split at h
  · rename_i z
    have hb : lo ≤ z ∧ z ≤ hi := hb
    rw [xle_iff.mpr hb.1, xle_iff.mpr hb.2] at h
    exact ⟨F, H, h⟩
  · cases hc : xle lo (eziv F e).1 && xle (eziv F e).2 hi with
    | true => rw [hc] at h; exact ⟨F, H, h⟩
    | false =>
      rw [hc] at h
      simp only [cond_false] at h
      have iv := eziv_s H e
      have m1 := xmx_s lo (eziv F e).1
      have m2 := xmn_s hi (eziv F e).2
      rw [show xle (xmx lo (eziv F e).1) (xmn hi (eziv F e).2) = true from xle_iff.mpr (by omega), Bool.not_true, cond_false, xfi_s, xfi_s] at h
      have p1 := ezpe_s r e (xmx lo (eziv F e).1)
      have p2 := ezpe_s r e (xmn hi (eziv F e).2)
      rw [ezxpe1 e _ 0] at p1 p2
      refine ⟨_, ezHpt H ?_ ?_, h⟩
      · omega
      · omega
def ezasm (l : List (Nat × xjE)) (L0 L1 : List ezLy) : xF → xF → (xF → Bool) → Bool
  | [], F, k => k F
  | q :: fs, F, k => ezev l L0 L1 q.1 F (fun F2 e => ezfact F2 e q.2.1 q.2.2 (fun F3 => ezasm l L0 L1 fs F3 k))
theorem ezasm_s {l : List (Nat × xjE)} {L0 L1 : List ezLy} (hs : ezsb r s l L0 L1) : ∀ (fs : xF) {F : xF} {k : xF → Bool}, ezH Q r F → (∀ q ∈ fs, q.2.1 ≤ ezden s q.1 ∧ ezden s q.1 ≤ q.2.2) → ezasm l L0 L1 fs F k = true → ∃ F2, ezH Q r F2 ∧ k F2 = true := by
  intro fs
  induction fs with
  | nil => intro F k H _ h; exact ⟨F, H, h⟩
  | cons q fs ih =>
    intro F k H hq h
    unfold ezasm at h
    obtain ⟨F2, e, h1, h2, h3⟩ := ezev_s hs q.1 H h
    obtain ⟨F3, h4, h5⟩ := ezfact_s h1 h2 (by rw [h3]; exact hq q List.mem_cons_self)
    exact ih h4 (fun z hz => hq z (List.mem_cons_of_mem _ hz)) h5
/-! every slot keeps its range -/
def ezwok (F : xF) (c j x : xjE) : Bool := match ezvals F c with
  | [] => false
  | y :: l => ezslot F c j (fun n => xle (-9223372036854775808) (ezSl n (ezsj j)).2.1 && (xle (ezSl n (ezsj j)).2.2.1 9223372036854775807 && ((ezSl n (ezsj j)).2.2.2.isEmpty || (match ezvals F x with | [] => false | u :: m => (u :: m).all fun z => xle 0 z && (ezSl n (ezsj j)).2.2.2.any (fun w => Nat.beq w z.toNat))))) &&
      ezbd F x (ezmx (fun n => (ezSl n (ezsj j)).2.1) y l) (ezmn (fun n => (ezSl n (ezsj j)).2.2.1) y l)
theorem ezwok_s (H : ezH Q r F) {c j x : xjE} (h : ezwok F c j x = true) {G : Int → Int → Int} (hG : ezHT G) : ezHT (ezwr G (ezden r c) (ezden r j) (ezden r x)) := by
  unfold ezwok at h
  split at h
  · cases h
  · rename_i y l ev
    rw [Bool.and_eq_true] at h
    obtain ⟨a1, a2, a3, a4, a5, a6⟩ := ezslot_s H h.1
    simp only [Bool.and_eq_true, xle_iff] at a3
    obtain ⟨c1, c2, c3⟩ := a3
    have b := ezbd_s H h.2
    have p1 := ezvals_s H c (by rw [ev]; simp)
    rw [ev] at p1
    have m1 := ezmx_s (f := fun n => (ezSl n (ezsj j)).2.1) l y _ p1
    have m2 := ezmn_s (f := fun n => (ezSl n (ezsj j)).2.2.1) l y _ p1
    have x1 : (ezSl (ezden r c).toNat (ezsj j)).2.1 ≤ ezden r x := Int.le_trans m1 b.1
    have x2 : ezden r x ≤ (ezSl (ezden r c).toNat (ezsj j)).2.2.1 := Int.le_trans b.2 m2
    refine ⟨fun a i => ?_, fun a i ha hi => ?_⟩
    · by_cases h9 : a = ezden r c ∧ i = ezden r j
      · rw [h9.1, h9.2, ezwr_eq]; omega
      · rw [ezwr_ne h9]; exact hG.1 a i
    · by_cases h9 : (a : Int) = ezden r c ∧ (i : Int) = ezden r j
      · have e1 : (ezden r c).toNat = a := by omega
        have e2 : (ezden r j).toNat = i := by omega
        rw [h9.1, h9.2, ezwr_eq]
        rw [e1, e2] at a6
        rw [e1] at x1 x2 c3
        rw [a6]
        refine ⟨x1, x2, ?_⟩
        rw [Bool.or_eq_true, List.isEmpty_iff] at c3
        rcases c3 with c3 | c3
        · exact Or.inl c3
        · refine Or.inr ?_
          split at c3
          · cases c3
          · rename_i u m eu
            have p2 := ezvals_s H x (by rw [eu]; simp)
            rw [eu] at p2
            have q := List.all_eq_true.mp c3 _ p2
            rw [Bool.and_eq_true, xle_iff] at q
            obtain ⟨w, hw, q2⟩ := List.any_eq_true.mp q.2
            have q2 := Nat.eq_of_beq_eq_true q2
            exact ⟨w, hw, by omega⟩
      · rw [ezwr_ne h9]; exact hG.2 a i ha hi
def ezlh (F : xF) : List ezLy → Bool
  | [] => true
  | (0, w, _) :: l => ezwok F w.1 w.2.1 w.2.2 && ezlh F l
  | (_ + 1, _, _) :: l => ezlh F l
theorem ezlh_s (H : ezH Q r F) : ∀ (L : List ezLy), ezlh F L = true → ezHT (ezhh r L) := by
  intro L
  induction L with
  | nil => intro _; exact H.1.1.2.2 0
  | cons w L ih =>
    intro h
    obtain ⟨t, w, m⟩ := w
    cases t with
    | zero =>
      have h : (ezwok F w.1 w.2.1 w.2.2 && ezlh F L) = true := h
      rw [Bool.and_eq_true] at h
      exact ezwok_s H h.1 (ih h.2)
    | succ v =>
      have h2 := ih h
      have hv := H.1.1.2.2 v
      refine ⟨fun a j => ?_, fun a j ha hj => ?_⟩
      · show _ ≤ (bif Nat.testBit m (ezlc a j) then r.2.1 v a j else ezhh r L a j) ∧ (bif Nat.testBit m (ezlc a j) then r.2.1 v a j else ezhh r L a j) ≤ _
        cases Nat.testBit m (ezlc a j) with
        | true => exact hv.1 a j
        | false => exact h2.1 a j
      · show _ ≤ (bif Nat.testBit m (ezlc (a : Int) (j : Int)) then r.2.1 v a j else ezhh r L a j) ∧ (bif Nat.testBit m (ezlc (a : Int) (j : Int)) then r.2.1 v a j else ezhh r L a j) ≤ _ ∧ (_ ∨ ∃ n ∈ _, (bif Nat.testBit m (ezlc (a : Int) (j : Int)) then r.2.1 v a j else ezhh r L a j) = _)
        cases Nat.testBit m (ezlc (a : Int) (j : Int)) with
        | true => exact hv.2 a j ha hj
        | false => exact h2.2 a j ha hj
/-- nothing is written beyond a set of cells -/
def ezwi (m : Nat) (F : xF) : List ezLy → Bool
  | [] => true
  | (0, w, _) :: l => ezcell F w.1 (eztb true m w.2.1) && ezwi m F l
  | (_ + 1, _, k) :: l => Nat.beq (Nat.land k m) k && ezwi m F l
theorem ezwi_s (H : ezH Q r F) {m : Nat} : ∀ (L : List ezLy), ezwi m F L = true → ∀ a j : Int, Nat.testBit m (ezlc a j) = false → ezhh r L a j = r.2.1 0 a j := by
  intro L
  induction L with
  | nil => intro _ a j _; rfl
  | cons w L ih =>
    intro h a j ha
    obtain ⟨t, w, k⟩ := w
    cases t with
    | zero =>
      have h : (ezcell F w.1 (eztb true m w.2.1) && ezwi m F L) = true := h
      rw [Bool.and_eq_true] at h
      have c := eztb_s (r := r) (ezcell_s H h.1).2.2
      show ezwr (ezhh r L) (ezden r w.1) (ezden r w.2.1) (ezden r w.2.2) a j = _
      rw [ezwr_ne (fun z => by rw [z.1, z.2, c] at ha; cases ha)]
      exact ih h.2 a j ha
    | succ v =>
      have h : (Nat.beq (Nat.land k m) k && ezwi m F L) = true := h
      rw [Bool.and_eq_true] at h
      have e := Nat.eq_of_beq_eq_true h.1
      show (bif Nat.testBit k (ezlc a j) then r.2.1 v a j else ezhh r L a j) = _
      cases hb : Nat.testBit k (ezlc a j) with
      | false => exact ih h.2 a j ha
      | true =>
        have e2 : Nat.testBit (k &&& m) (ezlc a j) = (Nat.testBit k (ezlc a j) && Nat.testBit m (ezlc a j)) := Nat.testBit_and k m (ezlc a j)
        have e3 : k &&& m = k := e
        rw [e3, hb, ha] at e2
        cases e2
/-! what a term speaks of: numbers below a (and the script's), versions below v -/
def ezsco (a v : Nat) : xjE → Bool
  | .num _ => true
  | .natCast _ => true
  | .intCast _ => true
  | .var i => Nat.blt i a || Nat.beq (i % 64) 0
  | .neg x => ezsco a v x
  | .add x y => ezsco a v x && ezsco a v y
  | .sub x y => ezsco a v x && ezsco a v y
  | .mul x y => ezsco a v x && ezsco a v y
  | .pow x k => (match x with
    | .add b c => ezsco a v b && ezsco a v c
    | .neg b => ezsco a v b
    | .sub b c => (match b with
      | .num z => Nat.beq (z.toNat % 64) 0 && ezsco a v c
      | .natCast _ => ezsco a v c
      | _ => false)
    | .mul c j => Nat.blt k v && (ezsco a v c && ezsco a v j)
    | _ => false)
def ezag (a v : Nat) (r s : ezR) : Prop := (∀ i, (i < a ∨ i % 64 = 0) → r.1 i = s.1 i) ∧ (∀ w, w < v → r.2.1 w = s.2.1 w) ∧ r.2.2 = s.2.2
theorem ezag_t {a b v w : Nat} {r s t : ezR} (h : ezag a v r s) (h2 : ezag b w s t) (hb : b ≤ a) (hw : w ≤ v) : ezag b w r t :=
  ⟨fun i hi => (h.1 i (hi.elim (fun z => Or.inl (Nat.lt_of_lt_of_le z hb)) Or.inr)).trans (h2.1 i hi), fun k hk => (h.2.1 k (Nat.lt_of_lt_of_le hk hw)).trans (h2.2.1 k hk), h.2.2.trans h2.2.2⟩
theorem ezsco_s {a v : Nat} (h : ezag a v r s) : ∀ t : xjE, ezsco a v t = true → ezden r t = ezden s t
  | .num _, _ => rfl
  | .natCast _, _ => rfl
  | .intCast _, _ => rfl
  | .var i, h2 => by
      unfold ezsco at h2
      rw [Bool.or_eq_true] at h2
      exact h.1 i (h2.elim (fun z => Or.inl (Nat.ble_eq.mp z)) (fun z => Or.inr (Nat.eq_of_beq_eq_true z)))
  | .neg x, h2 => by
      show - ezden r x = - ezden s x
      rw [ezsco_s h x h2]
  | .add x y, h2 => by
      unfold ezsco at h2
      rw [Bool.and_eq_true] at h2
      show ezden r x + ezden r y = ezden s x + ezden s y
      rw [ezsco_s h x h2.1, ezsco_s h y h2.2]
  | .sub x y, h2 => by
      unfold ezsco at h2
      rw [Bool.and_eq_true] at h2
      show ezden r x - ezden r y = ezden s x - ezden s y
      rw [ezsco_s h x h2.1, ezsco_s h y h2.2]
  | .mul x y, h2 => by
      unfold ezsco at h2
      rw [Bool.and_eq_true] at h2
      show ezden r x * ezden r y = ezden s x * ezden s y
      rw [ezsco_s h x h2.1, ezsco_s h y h2.2]
  | .pow (.add b c) k, h2 => by
      have h2 : (ezsco a v b && ezsco a v c) = true := h2
      rw [Bool.and_eq_true] at h2
      show xop k (ezden r b) (ezden r c) = xop k (ezden s b) (ezden s c)
      rw [ezsco_s h b h2.1, ezsco_s h c h2.2]
  | .pow (.neg b) k, h2 => by
      have h2 : ezsco a v b = true := h2
      show xop1 k (ezden r b) = xop1 k (ezden s b)
      rw [ezsco_s h b h2]
  | .pow (.sub (.num z) c) k, h2 => by
      have h2 : (Nat.beq (z.toNat % 64) 0 && ezsco a v c) = true := h2
      rw [Bool.and_eq_true] at h2
      show r.1 (z.toNat + 64 * (ezden r c).toNat) = s.1 (z.toNat + 64 * (ezden s c).toNat)
      rw [ezsco_s h c h2.2]
      have := Nat.eq_of_beq_eq_true h2.1
      exact h.1 _ (Or.inr (by omega))
  | .pow (.sub (.natCast z) c) k, h2 => by
      have h2 : ezsco a v c = true := h2
      show ((ezTb z)[(ezden r c).toNat]?).getD 0 = ((ezTb z)[(ezden s c).toNat]?).getD 0
      rw [ezsco_s h c h2]
  | .pow (.mul c j) k, h2 => by
      have h2 : (Nat.blt k v && (ezsco a v c && ezsco a v j)) = true := h2
      rw [Bool.and_eq_true, Bool.and_eq_true] at h2
      show r.2.1 k (ezden r c) (ezden r j) = s.2.1 k (ezden s c) (ezden s j)
      rw [ezsco_s h c h2.2.1, ezsco_s h j h2.2.2, h.2.1 k (Nat.ble_eq.mp h2.1)]
  | .pow (.num _) _, h2 => by cases h2
  | .pow (.natCast _) _, h2 => by cases h2
  | .pow (.intCast _) _, h2 => by cases h2
  | .pow (.var _) _, h2 => by cases h2
  | .pow (.pow _ _) _, h2 => by cases h2
  | .pow (.sub (.intCast _) _) _, h2 => by cases h2
  | .pow (.sub (.var _) _) _, h2 => by cases h2
  | .pow (.sub (.neg _) _) _, h2 => by cases h2
  | .pow (.sub (.add _ _) _) _, h2 => by cases h2
  | .pow (.sub (.sub _ _) _) _, h2 => by cases h2
  | .pow (.sub (.mul _ _) _) _, h2 => by cases h2
  | .pow (.sub (.pow _ _) _) _, h2 => by cases h2
def ezsL (a v : Nat) (l : List (Nat × xV)) : Bool := l.all fun q => ezsco a v q.2.2
def ezsS (a v : Nat) (l : List xV) : Bool := l.all fun q => ezsco a v q.2
def ezsF (a v : Nat) (l : xF) : Bool := l.all fun q => ezsco a v q.1
def ezsY (a v : Nat) (l : List ezLy) : Bool := l.all fun w => match w.1 with
  | 0 => ezsco a v w.2.1.1 && (ezsco a v w.2.1.2.1 && ezsco a v w.2.1.2.2)
  | k + 1 => Nat.blt k v
def ezsW (a v : Nat) (l : List xFr) : Bool := l.all fun f => ezsL a v f.2.2.1 && ezsS a v f.2.2.2.1
theorem ezsL_s {a v : Nat} (h : ezag a v r s) {l : List (Nat × xV)} (h2 : ezsL a v l = true) : ezdl r l = ezdl s l := by
  unfold ezdl
  apply List.map_congr_left
  intro q hq
  show (q.1, q.2.1, ezden r q.2.2) = (q.1, q.2.1, ezden s q.2.2)
  rw [ezsco_s h _ (List.all_eq_true.mp h2 q hq)]
theorem ezsS_s {a v : Nat} (h : ezag a v r s) {l : List xV} (h2 : ezsS a v l = true) : l.map (ezdv r) = l.map (ezdv s) := by
  apply List.map_congr_left
  intro q hq
  show (q.1, ezden r q.2) = (q.1, ezden s q.2)
  rw [ezsco_s h _ (List.all_eq_true.mp h2 q hq)]
theorem ezsF_s {a v : Nat} (h : ezag a v r s) {l : xF} (h2 : ezsF a v l = true) (h3 : ∀ q ∈ l, q.2.1 ≤ ezden r q.1 ∧ ezden r q.1 ≤ q.2.2) : ∀ q ∈ l, q.2.1 ≤ ezden s q.1 ∧ ezden s q.1 ≤ q.2.2 := by
  intro q hq
  rw [← ezsco_s h _ (List.all_eq_true.mp h2 q hq)]
  exact h3 q hq
theorem ezsY_s {a v : Nat} (h : ezag a v r s) (h0 : 0 < v) : ∀ {l : List ezLy}, ezsY a v l = true → ezhh r l = ezhh s l := by
  intro l
  induction l with
  | nil => intro _; exact h.2.1 0 h0
  | cons w l ih =>
    intro h2
    unfold ezsY at h2
    rw [List.all_cons, Bool.and_eq_true] at h2
    have ih := ih h2.2
    obtain ⟨t, w, m⟩ := w
    cases t with
    | zero =>
      have h3 : (ezsco a v w.1 && (ezsco a v w.2.1 && ezsco a v w.2.2)) = true := h2.1
      rw [Bool.and_eq_true, Bool.and_eq_true] at h3
      show ezwr (ezhh r l) (ezden r w.1) (ezden r w.2.1) (ezden r w.2.2) = ezwr (ezhh s l) (ezden s w.1) (ezden s w.2.1) (ezden s w.2.2)
      rw [ih, ezsco_s h _ h3.1, ezsco_s h _ h3.2.1, ezsco_s h _ h3.2.2]
    | succ k =>
      have h3 : Nat.blt k v = true := h2.1
      show (fun a j => bif Nat.testBit m (ezlc a j) then r.2.1 k a j else ezhh r l a j) = (fun a j => bif Nat.testBit m (ezlc a j) then s.2.1 k a j else ezhh s l a j)
      rw [ih, h.2.1 k (Nat.ble_eq.mp h3)]
theorem ezsW_s {a v : Nat} (h : ezag a v r s) {l : List xFr} (h2 : ezsW a v l = true) : ezdS r l = ezdS s l := by
  unfold ezdS
  apply List.map_congr_left
  intro f hf
  have h3 := List.all_eq_true.mp h2 f hf
  rw [Bool.and_eq_true] at h3
  rw [ezsL_s h h3.1, ezsS_s h h3.2, h.2.2]
/-- one number and one version anew -/
def ezfr (r : ezR) (N : Nat) (x : Int) (n : Nat) (H : Int → Int → Int) : ezR := (fun i => if i = N then x else r.1 i, fun w => if w = n then H else r.2.1 w, r.2.2)
theorem ezfr_ag {a v N n : Nat} {x : Int} {H : Int → Int → Int} (h1 : a ≤ N) (h2 : N % 64 ≠ 0) (h3 : v ≤ n) : ezag a v (ezfr r N x n H) r := by
  refine ⟨fun i hi => if_neg (fun e => ?_), fun w hw => if_neg (fun e => ?_), rfl⟩
  · rcases hi with hi | hi
    · omega
    · rw [e] at hi; exact h2 hi
  · omega
theorem ezag_s {a v : Nat} (h : ezag a v r s) : ezag a v s r := ⟨fun i hi => (h.1 i hi).symm, fun w hw => (h.2.1 w hw).symm, h.2.2.symm⟩
end EZ9
