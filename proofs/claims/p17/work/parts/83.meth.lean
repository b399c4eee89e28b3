noncomputable section EZD
/-! E2: a method: its contract out of runs between the places that are cut -/
variable {Q : ezR → Prop} {T : ycT} {r s : ezR} {F : xF}
/-- a place that is cut: pc, locals, what holds there, what falls -/
abbrev ezHed := Nat × List (Nat × xV) × xF × (xjE × xjE × xjE × xjE)
def ezflag (b : Bool) (n : Nat) : Bool := bif b then Nat.beq n 0 else !(Nat.beq n 0)
theorem ezflag_s {b : Bool} {n : Nat} (h : ezflag b n = true) : b = Nat.beq n 0 := by
  unfold ezflag at h
  cases b with
  | true => exact h.symm
  | false => exact (xbnot h).symm
/-- an end of the method keeps the contract -/
def ezendE (c : ezCon) : ezEn_ := fun F sort v g mc ms =>
  (ezlh F g.1 && ezwi c.2.2.2.1 F g.1) && (match sort with
  | 0 => Nat.beq c.2.2.1.1 0 && ((Nat.beq v.1 3 && xeq v.2 (.num 0)) && c.2.2.2.2.1.any (fun q => (Nat.beq mc q.1 && (Nat.beq ms (6 * q.1) && ezflag g.2.2 q.1)) && ezchk [] [] g.1 q.2 F (fun _ => true)))
  | 1 => Nat.beq c.2.2.1.1 1 && ((Nat.beq v.1 c.2.2.1.2.1 && ezdom F c.2.2.1.2.2 v.2) && c.2.2.2.2.1.any (fun q => (Nat.beq mc q.1 && (Nat.beq ms (6 * q.1) && ezflag g.2.2 q.1)) && ezchk [(c.2.2.1.2.2, v.2)] [] g.1 q.2 F (fun _ => true)))
  | e + 2 => (Nat.beq v.1 3 && xeq v.2 (.num 0)) && ((Nat.beq mc 1 && Nat.beq ms 6) && (!(g.2.2) && c.2.2.2.2.2.any (fun k => Nat.beq k e))))
theorem ezfr_ok {N n : Nat} {x : Int} {G : Int → Int → Int} (h : ezrok s) (hx : ((xvr N).1 ≤ x ∧ x ≤ (xvr N).2) ∧ (ezDv N = [] ∨ ∃ k ∈ ezDv N, x = ((k : Nat) : Int))) (hG : ezHT G) : ezrok (ezfr s N x n G) := by
  refine ⟨fun i => ?_, fun i => ?_, fun w => ?_⟩
  · by_cases hi : i = N
    · rw [hi, ezfr_v]; exact hx.1
    · rw [ezfr_w hi]; exact h.1 i
  · by_cases hi : i = N
    · rw [hi, ezfr_v]; exact hx.2
    · rw [ezfr_w hi]; exact h.2.1 i
  · by_cases hw : w = n
    · rw [hw, ezfr_n]; exact hG
    · rw [ezfr_o hw]; exact h.2.2 w
set_option maxHeartbeats 2000000 in
theorem ezendE_s {c : ezCon} {r0 : ezR} (ok0 : ezrok r0) (hv : c.2.2.1.2.2 < 4096) (hq : ∀ r, Q r → ezag 4096 1 r r0) : ∀ r, ezEok T Q r (ezPost T c r0) (ezendE c) := by
  intro r F sort v g mc ms h H
  unfold ezendE at h
  rw [Bool.and_eq_true, Bool.and_eq_true] at h
  obtain ⟨⟨h1, h2⟩, h3⟩ := h
  have hHT := ezlh_s H g.1 h1
  have ag := hq r H.1.2
  have hfr : ∀ a j : Int, Nat.testBit c.2.2.2.1 (ezlc a j) = false → ezhh r g.1 a j = r0.2.1 0 a j := fun a j ha => by rw [ezwi_s H g.1 h2 a j ha, ag.2.1 0 (by decide)]
  have sbk : ∀ (l : List (Nat × xjE)) (x : Int), (∀ i, i ≠ c.2.2.1.2.2 → ezlo l i = none) → (∀ e, ezlo l c.2.2.1.2.2 = some e → x = ezden r e) → (ezlo l c.2.2.1.2.2 = none → x = r.1 c.2.2.1.2.2) → ezsb r (ezfr r0 c.2.2.1.2.2 x 1 (ezhh r g.1)) l [] g.1 := by
    intro l x hn hs hs2
    refine ⟨fun i e hi => ?_, fun i hi hlt => ?_, ?_, ezfr_n⟩
    · by_cases he : i = c.2.2.1.2.2
      · rw [he] at hi ⊢
        rw [ezfr_v]
        exact hs e hi
      · rw [hn i he] at hi; cases hi
    · by_cases he : i = c.2.2.1.2.2
      · rw [he] at hi ⊢
        rw [ezfr_v]
        exact hs2 hi
      · rw [ezfr_w he]
        exact (ag.1 i (Or.inl hlt)).symm
    · rw [ezfr_o (by decide)]
      exact (ag.2.1 0 (by decide)).symm
  have hpu : ∀ b : Nat, g.2.2 = Nat.beq b 0 → ezhp T r g = ezhp1 T (ezhh r g.1) (r0.2.2 && Nat.beq b 0) := by
    intro b hb
    show ezhp1 T (ezhh r g.1) (r.2.2 && g.2.2) = _
    rw [hb, ag.2.2]
  match sort, h3 with
  | 0, h3 =>
    simp only [Bool.and_eq_true] at h3
    obtain ⟨k1, ⟨k2, k3⟩, k4⟩ := h3
    obtain ⟨q, hq2, h5⟩ := List.any_eq_true.mp k4
    simp only [Bool.and_eq_true] at h5
    obtain ⟨⟨m1, m2, m3⟩, h6⟩ := h5
    have sb := sbk [] (r0.1 c.2.2.1.2.2) (fun i _ => rfl) (fun e he => by cases he) (fun _ => (ag.1 _ (Or.inl hv)).symm)
    obtain ⟨F2, -, -, hf⟩ := ezchk_s sb q.2 H h6
    refine ⟨r0.1 c.2.2.1.2.2, ezhh r g.1, ezfr_ok ok0 ⟨ok0.1 _, ok0.2.1 _⟩ hHT, hfr, Or.inl ⟨q, hq2, ?_, hf⟩⟩
    obtain ⟨v1, v2⟩ := v
    have e1 : v1 = 3 := Nat.eq_of_beq_eq_true k2
    have e2 : v2 = .num 0 := xeq_s k3
    subst e1 e2
    rw [Nat.eq_of_beq_eq_true k1, Nat.eq_of_beq_eq_true m1, Nat.eq_of_beq_eq_true m2, hpu q.1 (ezflag_s m3)]
    rfl
  | 1, h3 =>
    simp only [Bool.and_eq_true] at h3
    obtain ⟨k1, ⟨k2, k3⟩, k4⟩ := h3
    obtain ⟨q, hq2, h5⟩ := List.any_eq_true.mp k4
    simp only [Bool.and_eq_true] at h5
    obtain ⟨⟨m1, m2, m3⟩, h6⟩ := h5
    have sb := sbk [(c.2.2.1.2.2, v.2)] (ezden r v.2) (fun i hi => by
      show (bif Nat.beq c.2.2.1.2.2 i then some v.2 else none) = none
      rw [ycbne (fun z => hi z.symm)]; rfl) (fun e he => by
      have he : (bif Nat.beq c.2.2.1.2.2 c.2.2.1.2.2 then some v.2 else none) = some e := he
      rw [Nat.beq_refl] at he
      cases Option.some.inj he
      rfl) (fun he => by
      have he : (bif Nat.beq c.2.2.1.2.2 c.2.2.1.2.2 then some v.2 else none) = none := he
      rw [Nat.beq_refl] at he
      cases he)
    obtain ⟨F2, -, -, hf⟩ := ezchk_s sb q.2 H h6
    refine ⟨ezden r v.2, ezhh r g.1, ezfr_ok ok0 (ezdom_s H k3) hHT, hfr, Or.inl ⟨q, hq2, ?_, hf⟩⟩
    obtain ⟨v1, v2⟩ := v
    have e1 : v1 = c.2.2.1.2.1 := Nat.eq_of_beq_eq_true k2
    subst e1
    rw [Nat.eq_of_beq_eq_true k1, Nat.eq_of_beq_eq_true m1, Nat.eq_of_beq_eq_true m2, hpu q.1 (ezflag_s m3)]
    rfl
  | e + 2, h3 =>
    simp only [Bool.and_eq_true] at h3
    obtain ⟨⟨k2, k3⟩, ⟨m1, m2⟩, m3, m4⟩ := h3
    obtain ⟨e2, he2, h5⟩ := List.any_eq_true.mp m4
    have h5 := Nat.eq_of_beq_eq_true h5
    subst h5
    refine ⟨r0.1 c.2.2.1.2.2, ezhh r g.1, ezfr_ok ok0 ⟨ok0.1 _, ok0.2.1 _⟩ hHT, hfr, Or.inr ⟨e2, he2, ?_⟩⟩
    obtain ⟨v1, v2⟩ := v
    have e1 : v1 = 3 := Nat.eq_of_beq_eq_true k2
    have e3 : v2 = .num 0 := xeq_s k3
    subst e1 e3
    rw [Nat.eq_of_beq_eq_true m1, Nat.eq_of_beq_eq_true m2]
    have hp : ezhp T r g = ezhp1 T (ezhh r g.1) false := by
      show ezhp1 T (ezhh r g.1) (r.2.2 && g.2.2) = _
      rw [xbnot m3, Bool.and_false]
    rw [hp]
    rfl
/-! what falls -/
def ez4 (s : ezR) (a : xjE × xjE × xjE × xjE) : Nat × Nat × Nat × Nat := ((ezden s a.1).toNat, (ezden s a.2.1).toNat, (ezden s a.2.2.1).toNat, (ezden s a.2.2.2).toNat)
def ezlt4 (a b : Nat × Nat × Nat × Nat) : Prop := a.1 < b.1 ∨ (a.1 ≤ b.1 ∧ (a.2.1 < b.2.1 ∨ (a.2.1 ≤ b.2.1 ∧ (a.2.2.1 < b.2.2.1 ∨ (a.2.2.1 ≤ b.2.2.1 ∧ a.2.2.2 < b.2.2.2)))))
theorem ez4_ind {P : Nat × Nat × Nat × Nat → Prop} (h : ∀ x, (∀ y, ezlt4 y x → P y) → P x) : ∀ x, P x := by
  have key : ∀ a b c d, P (a, b, c, d) := by
    intro a
    induction a using Nat.strongRecOn with
    | _ a iha =>
      intro b
      induction b using Nat.strongRecOn with
      | _ b ihb =>
        intro c
        induction c using Nat.strongRecOn with
        | _ c ihc =>
          intro d
          induction d using Nat.strongRecOn with
          | _ d ihd =>
            refine h _ (fun y hy => ?_)
            obtain ⟨ya, yb, yc, yd⟩ := y
            have hy : ya < a ∨ (ya ≤ a ∧ (yb < b ∨ (yb ≤ b ∧ (yc < c ∨ (yc ≤ c ∧ yd < d))))) := hy
            by_cases e1 : ya < a
            · exact iha ya e1 yb yc yd
            · have hy := hy.resolve_left e1
              have e1 : ya = a := by omega
              subst e1
              by_cases e2 : yb < b
              · exact ihb yb e2 yc yd
              · have hy := hy.2.resolve_left e2
                have e2 : yb = b := by omega
                subst e2
                by_cases e3 : yc < c
                · exact ihc yc e3 yd
                · have hy := hy.2.resolve_left e3
                  have e3 : yc = c := by omega
                  subst e3
                  exact ihd yd hy.2
  exact fun x => key x.1 x.2.1 x.2.2.1 x.2.2.2
def ezle1 (F : xF) (m e : xjE) (k : Bool) : Bool := (ezblo F e 0 && ezblo F (.sub m e) 1) || (ezblo F (.sub m e) 0 && k)
def ezlex (l : List (Nat × xjE)) (L1 : List ezLy) (a m : xjE × xjE × xjE × xjE) (F : xF) : Bool :=
  ezev l [] L1 a.1 F (fun F e => ezle1 F m.1 e (ezev l [] L1 a.2.1 F (fun F e => ezle1 F m.2.1 e (ezev l [] L1 a.2.2.1 F (fun F e => ezle1 F m.2.2.1 e (ezev l [] L1 a.2.2.2 F (fun F e => ezle1 F m.2.2.2 e false)))))))
theorem ezle1_s (H : ezH Q r F) {m e : xjE} {k : Bool} (h : ezle1 F m e k = true) : (ezden r e).toNat < (ezden r m).toNat ∨ ((ezden r e).toNat ≤ (ezden r m).toNat ∧ k = true) := by
  unfold ezle1 at h
  rw [Bool.or_eq_true, Bool.and_eq_true, Bool.and_eq_true] at h
  rcases h with ⟨h1, h2⟩ | ⟨h1, h2⟩
  · have a := ezblo_s H h1
    have b : 1 ≤ ezden r m - ezden r e := ezblo_s H h2
    exact Or.inl (by omega)
  · have b : 0 ≤ ezden r m - ezden r e := ezblo_s H h1
    exact Or.inr ⟨by omega, h2⟩
theorem ezlex_s (H : ezH Q r F) {l : List (Nat × xjE)} {L1 : List ezLy} (sb : ezsb r s l [] L1) {a m : xjE × xjE × xjE × xjE} (h : ezlex l L1 a m F = true) : ezlt4 (ez4 s a) (ez4 r m) := by
  unfold ezlex at h
  obtain ⟨F1, e1, H1, h1, d1⟩ := ezev_s sb a.1 H h
  rcases ezle1_s H1 h1 with h1 | ⟨h1, h⟩
  · exact Or.inl (by show (ezden s a.1).toNat < _; rw [← d1]; exact h1)
  · refine Or.inr ⟨by show (ezden s a.1).toNat ≤ _; rw [← d1]; exact h1, ?_⟩
    obtain ⟨F2, e2, H2, h2, d2⟩ := ezev_s sb a.2.1 H1 h
    rcases ezle1_s H2 h2 with h2 | ⟨h2, h⟩
    · exact Or.inl (by show (ezden s a.2.1).toNat < _; rw [← d2]; exact h2)
    · refine Or.inr ⟨by show (ezden s a.2.1).toNat ≤ _; rw [← d2]; exact h2, ?_⟩
      obtain ⟨F3, e3, H3, h3, d3⟩ := ezev_s sb a.2.2.1 H2 h
      rcases ezle1_s H3 h3 with h3 | ⟨h3, h⟩
      · exact Or.inl (by show (ezden s a.2.2.1).toNat < _; rw [← d3]; exact h3)
      · refine Or.inr ⟨by show (ezden s a.2.2.1).toNat ≤ _; rw [← d3]; exact h3, ?_⟩
        obtain ⟨F4, e4, H4, h4, d4⟩ := ezev_s sb a.2.2.2 H3 h
        rcases ezle1_s H4 h4 with h4 | ⟨-, h4⟩
        · show (ezden s a.2.2.2).toNat < _
          rw [← d4]; exact h4
        · cases h4
/-! locals at a place that is cut -/
def ezgen : List (Nat × xV) → List (Nat × xV) → xF → Option (List (Nat × xjE))
  | [], _, _ => some []
  | (i, (t, p)) :: as, lv, F => (match xlget lv i with
    | none => none
    | some (t2, e) => bif Nat.beq t t2 then (match p with
      | .var m => bif Nat.blt m 4096 then (bif xeq e (.var m) || ezbd F (.sub e (.var m)) 0 0 then ezgen as lv F else none)
        else (bif Nat.blt m 8192 && (!(Nat.beq (m % 64) 0) && ezdom F m e) then (match ezgen as lv F with
          | some l => some ((m, e) :: l)
          | none => none) else none)
      | .num z => bif ezbd F e z z then ezgen as lv F else none
      | _ => none) else none)
def ezuql : List (Nat × xV) → Bool
  | [] => true
  | q :: l => (l.all fun z => !(Nat.beq q.1 z.1)) && ezuql l
theorem ezuql_s : ∀ {l : List (Nat × xV)}, ezuql l = true → ∀ q ∈ l, ∀ z ∈ l, z.1 = q.1 → z = q := by
  intro l
  induction l with
  | nil => intro _ q hq; cases hq
  | cons a l ih =>
    intro h q hq z hz e
    have h : ((l.all fun y => !(Nat.beq a.1 y.1)) && ezuql l) = true := h
    rw [Bool.and_eq_true] at h
    have ne : ∀ y ∈ l, a.1 ≠ y.1 := fun y hy => Nat.ne_of_beq_eq_false (xbnot (List.all_eq_true.mp h.1 y hy))
    rcases List.mem_cons.mp hq with hq | hq
    · rcases List.mem_cons.mp hz with hz | hz
      · rw [hq, hz]
      · rw [hq] at e
        exact absurd e.symm (ne z hz)
    · rcases List.mem_cons.mp hz with hz | hz
      · rw [hz] at e
        exact absurd e (ne q hq)
      · exact ih h.2 q hq z hz e
theorem xlget_m : ∀ {l : List (Nat × xV)} {i : Nat} {v : xV}, xlget l i = some v → (i, v) ∈ l := by
  intro l
  induction l with
  | nil => intro i v h; cases h
  | cons q l ih =>
    intro i v h
    have h : (bif Nat.beq q.1 i then some q.2 else xlget l i) = some v := h
    cases hb : Nat.beq q.1 i with
    | true =>
      rw [hb] at h
      have e1 := Nat.eq_of_beq_eq_true hb
      have e2 : q.2 = v := Option.some.inj h
      rw [← e1, ← e2]
      exact List.mem_cons_self
    | false =>
      rw [hb] at h
      exact List.mem_cons_of_mem _ (ih h)
theorem ezgen_s (H : ezH Q r F) {lv : List (Nat × xV)} : ∀ (as : List (Nat × xV)) (l : List (Nat × xjE)), ezgen as lv F = some l → ezlok r 4096 8192 l ∧ ∀ s : ezR, (∀ q ∈ l, s.1 q.1 = ezden r q.2) → (∀ i, i < 4096 → s.1 i = r.1 i) → ∀ q ∈ ezdl s as, q ∈ ezdl r lv := by
  intro as
  induction as with
  | nil =>
    intro l h
    cases Option.some.inj h
    exact ⟨fun q hq => (by cases hq), fun s _ _ q hq => (by cases hq)⟩
  | cons a as ih =>
    intro l h
    obtain ⟨i, t, p⟩ := a
    unfold ezgen at h
    split at h
    · cases h
    · rename_i t2 e el
      have hm := xlget_m el
      revert h
      cases ht : Nat.beq t t2 with
      | false => intro h; cases h
      | true =>
        simp only [cond_true]
        intro h
        have e1 := Nat.eq_of_beq_eq_true ht
        subst e1
        have hin : (i, t, ezden r e) ∈ ezdl r lv := List.mem_map.mpr ⟨_, hm, rfl⟩
        split at h
        · rename_i m
          revert h
          cases hm4 : Nat.blt m 4096 with
          | true =>
            simp only [cond_true]
            have h4 : m < 4096 := Nat.ble_eq.mp hm4
            cases hb : xeq e (.var m) || ezbd F (.sub e (.var m)) 0 0 with
            | false => intro h; cases h
            | true =>
              simp only [cond_true]
              intro h
              obtain ⟨a1, a2⟩ := ih l h
              have ev : ezden r e = r.1 m := by
                rw [Bool.or_eq_true] at hb
                rcases hb with hb | hb
                · rw [xeq_s hb]; rfl
                · have b : 0 ≤ ezden r e - r.1 m ∧ ezden r e - r.1 m ≤ 0 := ezbd_s H hb
                  omega
              refine ⟨a1, fun s s1 s2 q hq => ?_⟩
              rcases List.mem_cons.mp hq with hq | hq
              · rw [hq]
                show (i, t, s.1 m) ∈ _
                rw [s2 m h4, ← ev]
                exact hin
              · exact a2 s s1 s2 q hq
          | false =>
            simp only [cond_false]
            cases hb : Nat.blt m 8192 && (!(Nat.beq (m % 64) 0) && ezdom F m e) with
            | false => intro h; cases h
            | true =>
              simp only [cond_true]
              intro h
              split at h
              · rename_i l2 e2
                cases Option.some.inj h
                obtain ⟨a1, a2⟩ := ih l2 e2
                simp only [Bool.and_eq_true] at hb
                have d := ezdom_s H hb.2.2
                refine ⟨fun q hq => ?_, fun s s1 s2 q hq => ?_⟩
                · rcases List.mem_cons.mp hq with hq | hq
                  · rw [hq]
                    refine ⟨d.1, d.2, Nat.ne_of_beq_eq_false (xbnot hb.2.1), ?_, Nat.ble_eq.mp hb.1⟩
                    show 4096 ≤ m
                    exact Nat.le_of_not_lt (fun z => by rw [ycblt z] at hm4; cases hm4)
                  · exact a1 q hq
                · rcases List.mem_cons.mp hq with hq | hq
                  · rw [hq]
                    show (i, t, s.1 m) ∈ _
                    rw [s1 (m, e) List.mem_cons_self]
                    exact hin
                  · exact a2 s (fun q hq => s1 q (List.mem_cons_of_mem _ hq)) s2 q hq
              · cases h
        · rename_i z
          revert h
          cases hb : ezbd F e z z with
          | false => intro h; cases h
          | true =>
            simp only [cond_true]
            intro h
            obtain ⟨a1, a2⟩ := ih l h
            have b := ezbd_s H hb
            refine ⟨a1, fun s s1 s2 q hq => ?_⟩
            rcases List.mem_cons.mp hq with hq | hq
            · rw [hq]
              show (i, t, z) ∈ _
              rw [show z = ezden r e by omega]
              exact hin
            · exact a2 s s1 s2 q hq
        · cases h
def ezfh (hs : List ezHed) (pc : Nat) : Option ezHed := List.rec (motive := fun _ => Option ezHed) none (fun h _ ih => bif Nat.beq h.1 pc then some h else ih) hs
def ezish (hs : List ezHed) (pc : Nat) : Bool := List.rec (motive := fun _ => Bool) false (fun h _ ih => bif Nat.beq h.1 pc then true else ih) hs
theorem ezfh_m : ∀ {hs : List ezHed} {pc : Nat} {h : ezHed}, ezfh hs pc = some h → h ∈ hs ∧ h.1 = pc := by
  intro hs
  induction hs with
  | nil => intro pc h e; cases e
  | cons a hs ih =>
    intro pc h e
    have e : (bif Nat.beq a.1 pc then some a else ezfh hs pc) = some h := e
    cases hb : Nat.beq a.1 pc with
    | true =>
      rw [hb] at e
      cases Option.some.inj e
      exact ⟨List.mem_cons_self, Nat.eq_of_beq_eq_true hb⟩
    | false =>
      rw [hb] at e
      exact ⟨List.mem_cons_of_mem _ (ih e).1, (ih e).2⟩
/-- where a place that is cut is come to -/
def ezarv (m : Nat) (c : ezCon) (hs : List ezHed) (M : Option (xjE × xjE × xjE × xjE)) : ezCo_ := fun mid fr g S mc ms F => match ezfh hs fr.1 with
  | none => false
  | some h => ((Nat.beq mid m && (S.isEmpty && fr.2.2.isEmpty)) && ((Nat.beq mc 0 && Nat.beq ms 0) && g.2.2)) && ((ezlh F g.1 && (ezwi c.2.2.2.1 F g.1 && ezuql fr.2.1)) && (match ezgen h.2.1 fr.2.1 F with
    | none => false
    | some l => ezu l && ezchk l [] g.1 h.2.2.1 F (fun F => match M with
      | none => true
      | some M => ezlex l g.1 h.2.2.2 M F)))
theorem ezarv_s {P : ycL → Prop} {m : Nat} {c : ezCon} {hs : List ezHed} {M : Option (xjE × xjE × xjE × xjE)} {r0 : ezR} {lt : ezHed → ezR → Prop} (hq : ∀ r, Q r → ezag 4096 1 r r0)
    (hM : M = none → ∀ h s, lt h s) (hM2 : ∀ M', M = some M' → ∀ r, Q r → ∀ h s, ezlt4 (ez4 s h.2.2.2) (ez4 r M') → lt h s)
    (next : ∀ h ∈ hs, ∀ s, ezrok s → ezag 4096 1 s r0 → (∀ a j : Int, Nat.testBit c.2.2.2.1 (ezlc a j) = false → s.2.1 1 a j = r0.2.1 0 a j) → (∀ q ∈ h.2.2.1, q.2.1 ≤ ezden s q.1 ∧ ezden s q.1 ≤ q.2.2) → lt h s → yvG T [] P m (h.1, ezdl s h.2.1, []) (ezhp1 T (s.2.1 1) r0.2.2) 0 0) :
    ∀ r, ezKok T Q r P (ezarv m c hs M) := by
  intro r mid fr g S mc ms F h H
  unfold ezarv at h
  split at h
  · cases h
  · rename_i hd ehd
    simp only [Bool.and_eq_true] at h
    obtain ⟨⟨⟨k1, k2, k3⟩, ⟨k4, k5⟩, k6⟩, ⟨k7, k8, k9⟩, h⟩ := h
    split at h
    · cases h
    · rename_i l el
      rw [Bool.and_eq_true] at h
      obtain ⟨hu, h⟩ := h
      obtain ⟨hm, hpc⟩ := ezfh_m ehd
      have ag := hq r H.1.2
      obtain ⟨F2, H2, h2, hinv⟩ := ezchk_s (ezrs_sb (r := r) (l := l) (L0 := []) (L1 := g.1) (b := r.2.2)) hd.2.2.1 H h
      obtain ⟨lok, lsub⟩ := ezgen_s H _ _ el
      have ok := ezrs_ok (b := r.2.2) H.1.1 lok (H.1.1.2.2 0) (ezlh_s H g.1 k7)
      have none4 : ∀ i, (i < 4096 ∨ i % 64 = 0) → ezlo l i = none := by
        intro i hi
        cases he : ezlo l i with
        | none => rfl
        | some e =>
          have := lok (i, e) (ezlo_m he)
          rcases hi with hi | hi
          · exact absurd hi (Nat.not_lt.mpr this.2.2.2.1)
          · exact absurd hi this.2.2.1
      have ags : ezag 4096 1 (ezrs r l (ezhh r []) (ezhh r g.1) r.2.2) r := by
        refine ⟨fun i hi => ezrs_n (none4 i hi), fun w hw => ?_, rfl⟩
        have : w = 0 := by omega
        subst this
        exact ezrs_0
      have lt1 : lt hd (ezrs r l (ezhh r []) (ezhh r g.1) r.2.2) := by
        cases M with
        | none => exact hM rfl _ _
        | some M' => exact hM2 M' rfl r H2.1.2 _ _ (ezlex_s H2 ezrs_sb h2)
      have nx := next hd hm _ ok (ezag_t ags ag (Nat.le_refl _) (Nat.le_refl _)) (fun a j ha => by rw [ezrs_1, ezwi_s H g.1 k8 a j ha, ag.2.1 0 (by decide)]) hinv lt1
      obtain ⟨pc, lv, st⟩ := fr
      have e1 := Nat.eq_of_beq_eq_true k1
      have e2 := List.isEmpty_iff.mp k2
      have e3 : st = [] := List.isEmpty_iff.mp k3
      have e4 := Nat.eq_of_beq_eq_true k4
      have e5 := Nat.eq_of_beq_eq_true k5
      have e6 : hd.1 = pc := hpc
      subst e1 e2 e3 e4 e5 e6
      have ysb : ysub (ezdl (ezrs r l (ezhh r []) (ezhh r g.1) r.2.2) hd.2.1) (ezdl r lv) := by
        intro q hq
        have hq2 := lsub _ (fun q hq => ezrs_v (ezu_s hu q hq)) (fun i hi => ezrs_n (none4 i (Or.inl hi))) q hq
        refine ⟨hq2, fun q2 h2 e => ?_⟩
        obtain ⟨x, hx, rfl⟩ := List.mem_map.mp hq2
        obtain ⟨y, hy, rfl⟩ := List.mem_map.mp h2
        rw [ezuql_s k9 x hx y hy e]
      have nx2 := yvG_m ysb (S := []) (S2 := []) trivial nx
      rw [ezrs_1, ← ag.2.2] at nx2
      have k6 : g.2.2 = true := k6
      have eh : ezhp T r g = ezhp1 T (ezhh r g.1) r.2.2 := by
        show ezhp1 T (ezhh r g.1) (r.2.2 && g.2.2) = _
        rw [k6, Bool.and_true]
      show yvG T [] P mid (hd.1, ezdl r lv, []) (ezhp T r g) 0 0
      rw [eh]
      exact nx2
/-- a pattern's own numbers -/
def ezids : List (Nat × xV) → List (Nat × xjE)
  | [] => []
  | (_, (_, .var m)) :: l => bif Nat.blt m 4096 then ezids l else (m, .var m) :: ezids l
  | _ :: l => ezids l
theorem ezids_m : ∀ {l : List (Nat × xV)} {q : Nat × xjE}, q ∈ ezids l → q.2 = .var q.1 := by
  intro l
  induction l with
  | nil => intro q h; cases h
  | cons a l ih =>
    intro q h
    unfold ezids at h
    split at h
    · rename_i h9
      cases h9
    · rename_i x1 x2 m l2 h9
      cases h9
      revert h
      cases Nat.blt m 4096 with
      | true => exact ih
      | false =>
        intro h
        rcases List.mem_cons.mp h with h | h
        · rw [h]
        · exact ih h
    · rename_i x l2 h9 h10
      cases h10
      exact ih h
def ezL1 (c : ezCon) : List ezLy := [(2, (.num 0, .num 0, .num 0), c.2.2.2.1)]
def ezseg (T : ycT) (C : List (Nat × ezCon)) (m : Nat) (c : ezCon) (hs : List ezHed) (N : Nat) (W : ezHts) (h : ezHed) : Bool :=
  ezasm (ezids h.2.1) [] (ezL1 c) h.2.2.1 [] (fun F => ezev (ezids h.2.1) [] (ezL1 c) h.2.2.2.1 F (fun F m1 => ezev (ezids h.2.1) [] (ezL1 c) h.2.2.2.2.1 F (fun F m2 => ezev (ezids h.2.1) [] (ezL1 c) h.2.2.2.2.2.1 F (fun F m3 => ezev (ezids h.2.1) [] (ezL1 c) h.2.2.2.2.2.2 F (fun F m4 =>
    (ezsco 8192 2 m1 && (ezsco 8192 2 m2 && (ezsco 8192 2 m3 && ezsco 8192 2 m4))) && ezrun T C (ezendE c) (ezish hs) W (ezarv m c hs (some (m1, m2, m3, m4))) N m (h.1, h.2.1, []) (ezL1 c, 2, true) [] 0 0 F)))))
def ezent (T : ycT) (C : List (Nat × ezCon)) (m : Nat) (c : ezCon) (hs : List ezHed) (N : Nat) (W : ezHts) : Bool :=
  ezasm [] [] [] c.2.1 [] (fun F => ezdisp T C (ezendE c) (ezish hs) W (ezarv m c hs none) (ezrun T C (ezendE c) (ezish hs) W (ezarv m c hs none) N) m (0, c.1, []) ([], 2, true) [] 0 0 F)
def ezmth (T : ycT) (C : List (Nat × ezCon)) (m : Nat) (c : ezCon) (hs : List ezHed) (N : Nat) (W : ezHts) : Bool := ((Nat.blt c.2.2.1.2.2 4096 && ezsL 4096 1 c.1) && ezsF 4096 1 c.2.1) && (ezent T C m c hs N W && hs.all (fun h => ezseg T C m c hs N W h))
set_option maxHeartbeats 2000000 in
theorem ezmth_0 {C : List (Nat × ezCon)} {m : Nat} {c : ezCon} {hs : List ezHed} {N : Nat} {W : ezHts} (hC : ∀ q ∈ C, ezMet T q.1 q.2) (h : ezmth T C m c hs N W = true) {r0 : ezR} (ok0 : ezrok r0) (ol0 : ezol T r0) (hpre : ∀ q ∈ c.2.1, q.2.1 ≤ ezden r0 q.1 ∧ ezden r0 q.1 ≤ q.2.2) (hb : r0.2.1 1 = r0.2.1 0) : ∃ k u, ycrun T k m (0, ezdl r0 c.1, []) (ezhp1 T (r0.2.1 0) r0.2.2) = some u ∧ ezPost T c r0 u := by
  unfold ezmth at h
  rw [Bool.and_eq_true, Bool.and_eq_true, Bool.and_eq_true, Bool.and_eq_true] at h
  obtain ⟨⟨⟨hv, -⟩, -⟩, hent, hseg⟩ := h
  have hv := Nat.ble_eq.mp hv
  have key : ∀ x : Nat × Nat × Nat × Nat, ∀ h ∈ hs, ∀ s, ezrok s → ezag 4096 1 s r0 → (∀ a j : Int, Nat.testBit c.2.2.2.1 (ezlc a j) = false → s.2.1 1 a j = r0.2.1 0 a j) → (∀ q ∈ h.2.2.1, q.2.1 ≤ ezden s q.1 ∧ ezden s q.1 ≤ q.2.2) → ez4 s h.2.2.2 = x → yvG T [] (ezPost T c r0) m (h.1, ezdl s h.2.1, []) (ezhp1 T (s.2.1 1) r0.2.2) 0 0 := by
    refine ez4_ind (fun x ih h hh s oks ags frs invs hx => ?_)
    have seg := List.all_eq_true.mp hseg h hh
    have ols : ezol T s := ezol_c (fun i hi => ags.1 i (Or.inr hi)) ol0
    have hq : ∀ r, ezag 8192 2 r s → ezag 4096 1 r r0 := fun r hr => ezag_t hr ags (by decide) (by decide)
    have hQ : ∀ (r : ezR) (N : Nat) (x : Int) (n : Nat) (G : Int → Int → Int), 8192 ≤ N → N % 64 ≠ 0 → 2 ≤ n → ezag 8192 2 r s → ezag 8192 2 (ezfr r N x n G) s := fun r N x n G h1 h2 h3 hr => ezag_t (ezfr_ag h1 h2 h3) hr (Nat.le_refl _) (Nat.le_refl _)
    have hol : ∀ r, ezag 8192 2 r s → ezol T r := fun r hr => ezol_c (fun i hi => hr.1 i (Or.inr hi)) ols
    have eG : ezhh s (ezL1 c) = s.2.1 1 := by
      funext a j
      show (bif Nat.testBit c.2.2.2.1 (ezlc a j) then s.2.1 1 a j else s.2.1 0 a j) = _
      cases hb : Nat.testBit c.2.2.2.1 (ezlc a j) with
      | true => rfl
      | false => rw [frs a j hb, ← ags.2.1 0 (by decide)]; rfl
    have sb : ezsb s s (ezids h.2.1) [] (ezL1 c) := ⟨fun i e he => by
      have := ezids_m (ezlo_m he)
      have this : e = .var i := this
      rw [this]; rfl, fun i _ _ => rfl, rfl, eG.symm⟩
    have H0 : ezH (fun r => ezag 8192 2 r s) s [] := ⟨⟨oks, ⟨fun _ _ => rfl, fun _ _ => rfl, rfl⟩⟩, fun q hq => by cases hq⟩
    unfold ezseg at seg
    obtain ⟨F1, H1, seg⟩ := ezasm_s sb h.2.2.1 H0 invs seg
    obtain ⟨F2, m1, H2, seg, d1⟩ := ezev_s sb _ H1 seg
    obtain ⟨F3, m2, H3, seg, d2⟩ := ezev_s sb _ H2 seg
    obtain ⟨F4, m3, H4, seg, d3⟩ := ezev_s sb _ H3 seg
    obtain ⟨F5, m4, H5, seg, d4⟩ := ezev_s sb _ H4 seg
    rw [Bool.and_eq_true, Bool.and_eq_true, Bool.and_eq_true, Bool.and_eq_true] at seg
    obtain ⟨⟨c1, c2, c3, c4⟩, seg⟩ := seg
    have dM : ez4 s (m1, m2, m3, m4) = x := by
      rw [← hx]
      show ((ezden s m1).toNat, (ezden s m2).toNat, (ezden s m3).toNat, (ezden s m4).toNat) = _
      rw [d1, d2, d3, d4]; rfl
    have hA : ∀ r, ezKok T (fun r => ezag 8192 2 r s) r (ezPost T c r0) (ezarv m c hs (some (m1, m2, m3, m4))) := ezarv_s (lt := fun h s => ezlt4 (ez4 s h.2.2.2) x) hq (fun e => by cases e) (fun M' e r hr h2 s2 hl => by
      cases Option.some.inj e
      have : ez4 r (m1, m2, m3, m4) = x := by
        rw [← dM]
        show ((ezden r m1).toNat, (ezden r m2).toNat, (ezden r m3).toNat, (ezden r m4).toNat) = ((ezden s m1).toNat, (ezden s m2).toNat, (ezden s m3).toNat, (ezden s m4).toNat)
        rw [ezsco_s hr m1 c1, ezsco_s hr m2 c2, ezsco_s hr m3 c3, ezsco_s hr m4 c4]
      rw [this] at hl
      exact hl) (fun h2 hh2 s2 ok2 ag2 fr2 inv2 hl => ih _ hl h2 hh2 s2 ok2 ag2 fr2 inv2 rfl)
    have fin := ezrun_s hQ hol hC (ezendE_s ok0 hv hq) hA N s m (h.1, h.2.1, []) (ezL1 c, 2, true) [] 0 0 F5 seg H5
    have eh : ezhp T s (ezL1 c, 2, true) = ezhp1 T (s.2.1 1) r0.2.2 := by
      show ezhp1 T (ezhh s (ezL1 c)) (s.2.2 && true) = _
      rw [eG, Bool.and_true, ags.2.2]
    rw [eh] at fin
    exact fin
  have hq : ∀ r, ezag 4096 1 r r0 → ezag 4096 1 r r0 := fun r hr => hr
  have hQ : ∀ (r : ezR) (N : Nat) (x : Int) (n : Nat) (G : Int → Int → Int), 8192 ≤ N → N % 64 ≠ 0 → 2 ≤ n → ezag 4096 1 r r0 → ezag 4096 1 (ezfr r N x n G) r0 := fun r N x n G h1 h2 h3 hr => ezag_t (ezfr_ag h1 h2 h3) hr (by decide) (by decide)
  have hol : ∀ r, ezag 4096 1 r r0 → ezol T r := fun r hr => ezol_c (fun i hi => hr.1 i (Or.inr hi)) ol0
  have hA : ∀ r, ezKok T (fun r => ezag 4096 1 r r0) r (ezPost T c r0) (ezarv m c hs none) := ezarv_s (lt := fun _ _ => True) hq (fun _ _ _ => trivial) (fun M' e => by cases e) (fun h2 hh2 s2 ok2 ag2 fr2 inv2 _ => key _ h2 hh2 s2 ok2 ag2 fr2 inv2 rfl)
  have H0 : ezH (fun r => ezag 4096 1 r r0) r0 [] := ⟨⟨ok0, ⟨fun _ _ => rfl, fun _ _ => rfl, rfl⟩⟩, fun q hq => by cases hq⟩
  unfold ezent at hent
  have sb : ezsb r0 r0 [] [] [] := ⟨fun i e he => (by cases he), fun i _ _ => rfl, rfl, hb⟩
  obtain ⟨F1, H1, hent⟩ := ezasm_s sb c.2.1 H0 hpre hent
  have fin := ezdisp_s hQ hol hC (ezendE_s ok0 hv hq) hA (ezrun_s hQ hol hC (ezendE_s ok0 hv hq) hA N) r0 m (0, c.1, []) ([], 2, true) [] 0 0 F1 hent H1
  have eh : ezhp T r0 ([], 2, true) = ezhp1 T (r0.2.1 0) r0.2.2 := by
    show ezhp1 T (r0.2.1 0) (r0.2.2 && true) = _
    rw [Bool.and_true]
  rw [eh] at fin
  obtain ⟨k, u, hu, hP⟩ := fin
  have hP : ezPost T c r0 (ycmore 0 0 u) := hP
  rw [yc_more0] at hP
  exact ⟨k, u, hu, hP⟩
theorem ezmth_s {C : List (Nat × ezCon)} {m : Nat} {c : ezCon} {hs : List ezHed} {N : Nat} {W : ezHts} (hC : ∀ q ∈ C, ezMet T q.1 q.2) (h : ezmth T C m c hs N W = true) : ezMet T m c := by
  intro r ok ol hpre
  have hsc : ezsF 4096 1 c.2.1 = true := by
    have h2 := h
    unfold ezmth at h2
    rw [Bool.and_eq_true, Bool.and_eq_true] at h2
    exact h2.1.2
  have e0 : ∀ w, w ≠ 1 → (ezfr r 4095 (r.1 4095) 1 (r.2.1 0)).2.1 w = r.2.1 w := fun w hw => ezfr_o hw
  have ev : (ezfr r 4095 (r.1 4095) 1 (r.2.1 0)).1 = r.1 := by
    funext i
    by_cases hi : i = 4095
    · rw [hi, ezfr_v]
    · rw [ezfr_w hi]
  have ag : ezag 4096 1 r (ezfr r 4095 (r.1 4095) 1 (r.2.1 0)) := ⟨fun i _ => by rw [ev], fun w hw => (e0 w (by omega)).symm, rfl⟩
  have ok2 : ezrok (ezfr r 4095 (r.1 4095) 1 (r.2.1 0)) := ezfr_ok ok ⟨ok.1 _, ok.2.1 _⟩ (ok.2.2 0)
  obtain ⟨k, u, hu, v, H, p1, p2, p3⟩ := ezmth_0 hC h ok2 (ezol_c (fun i _ => by rw [ev]) ol) (ezsF_s ag hsc hpre) (by rw [ezfr_n, e0 0 (by decide)])
  have ef : ∀ (N : Nat) (v : Int) (H : Int → Int → Int), ezfr (ezfr r 4095 (r.1 4095) 1 (r.2.1 0)) N v 1 H = ezfr r N v 1 H := by
    intro N v H
    refine Prod.ext ?_ (Prod.ext ?_ rfl)
    · funext i
      show (if i = N then v else (ezfr r 4095 (r.1 4095) 1 (r.2.1 0)).1 i) = (if i = N then v else r.1 i)
      rw [ev]
    · funext w
      show (if w = 1 then H else (ezfr r 4095 (r.1 4095) 1 (r.2.1 0)).2.1 w) = (if w = 1 then H else r.2.1 w)
      by_cases hw : w = 1
      · rw [if_pos hw, if_pos hw]
      · rw [if_neg hw, if_neg hw, e0 w hw]
  rw [ef] at p1 p3
  rw [e0 0 (by decide)] at hu p2
  refine ⟨k, u, ?_, v, H, p1, p2, p3⟩
  have ed : ∀ l : List (Nat × xV), ezsL 4096 1 l = true → ezdl (ezfr r 4095 (r.1 4095) 1 (r.2.1 0)) l = ezdl r l := fun l hl => (ezsL_s ag hl).symm
  rw [ed c.1 (by
    have h2 := h
    unfold ezmth at h2
    rw [Bool.and_eq_true, Bool.and_eq_true, Bool.and_eq_true] at h2
    exact h2.1.1.2)] at hu
  exact hu
end EZD
