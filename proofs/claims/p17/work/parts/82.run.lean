noncomputable section EZC
/-! E2: the run -/
variable {Q : ezR → Prop} {T : ycT} {r : ezR} {F : xF}
/-- a step of a run, whatever it is -/
def ezbody (T : ycT) (E : ezEn_) (k : ezCo_) (mid pc : Nat) (lv : List (Nat × xV)) (st : List xV) (g : ezHp) (S : List xFr) (mc ms : Nat) (F : xF) : Bool :=
  match ytP T mid pc with
  | none => false
  | some (ins, len) =>
    match ins with
    | .return_ => Nat.beq len 1 && ezret E k .return_ (ytMI T mid).2.2.1 st g S mc ms F
    | .ireturn => Nat.beq len 1 && ezret E k .ireturn (ytMI T mid).2.2.1 st g S mc ms F
    | .lreturn => Nat.beq len 1 && ezret E k .lreturn (ytMI T mid).2.2.1 st g S mc ms F
    | .areturn => Nat.beq len 1 && ezret E k .areturn (ytMI T mid).2.2.1 st g S mc ms F
    | .invokestatic i => Nat.beq len 3 && ezcall T k mid i 0 (pc, lv, st) g S mc ms F
    | .invokevirtual i => Nat.beq len 3 && ezcall T k mid i 1 (pc, lv, st) g S mc ms F
    | .invokespecial i => Nat.beq len 3 && ezcall T k mid i 2 (pc, lv, st) g S mc ms F
    | .new i => Nat.beq len 3 && (match ytNX T mid i with | some (e, n) => ezthrow T E k mid i e n (pc, lv, st) g S mc ms F | none => false)
    | ins => (!(xspec ins) && (ycisw ins || Nat.beq len (yclen ins))) && ezpre ins st F (fun F => ezstep (ytMI T mid).2.1 (ytMI T mid).2.2.2.1 (ytFD T mid) (ytKC T mid) (ytKL T mid) (ytST T mid) ins F pc lv st g (fun F2 fr2 g2 => k mid fr2 g2 S mc ms F2))
set_option maxHeartbeats 4000000 in
theorem ezbody_s (H : ezH Q r F) {P : ycL → Prop} (hol : ezol T r) {E : ezEn_} {k : ezCo_} (hE : ezEok T Q r P E) (hk : ezKok T Q r P k) {mid pc : Nat} {lv : List (Nat × xV)} {st : List xV} {g : ezHp} {S : List xFr} {mc ms : Nat} (h : ezbody T E k mid pc lv st g S mc ms F = true) : yvG T (ezdS r S) P mid (ezdF r (pc, lv, st)) (ezhp T r g) mc ms := by
  have hr : ∀ n, ycrun T (n + 1) mid (ezdF r (pc, lv, st)) (ezhp T r g) = ycbody T (ycrun T n) mid (ezdF r (pc, lv, st)) (ezhp T r g) := fun n => rfl
  unfold ezbody at h
  split at h
  · cases h
  · rename_i ins len e
    have hb : ∀ n, ycrun T (n + 1) mid (ezdF r (pc, lv, st)) (ezhp T r g) = (match ytP T mid pc with | none => none | some (ins, len) => _) := fun n => hr n
    simp only [e] at hb
    split at h
    · rw [Bool.and_eq_true] at h
      exact ezret_s H hE hk h.2 ((hb 0).trans (xbt h.1 rfl))
    · rw [Bool.and_eq_true] at h
      exact ezret_s H hE hk h.2 ((hb 0).trans (xbt h.1 rfl))
    · rw [Bool.and_eq_true] at h
      exact ezret_s H hE hk h.2 ((hb 0).trans (xbt h.1 rfl))
    · rw [Bool.and_eq_true] at h
      exact ezret_s H hE hk h.2 ((hb 0).trans (xbt h.1 rfl))
    · rw [Bool.and_eq_true] at h
      exact ezcall_s H hk h.2 (fun n => (hb n).trans (xbt h.1 rfl))
    · rw [Bool.and_eq_true] at h
      exact ezcall_s H hk h.2 (fun n => (hb n).trans (xbt h.1 rfl))
    · rw [Bool.and_eq_true] at h
      exact ezcall_s H hk h.2 (fun n => (hb n).trans (xbt h.1 rfl))
    · rename_i i
      rw [Bool.and_eq_true] at h
      have h2 := h.2
      split at h2
      · rename_i e9 n9 e2
        refine ezthrow_s H hE hk h2 ((hb 0).trans (xbt h.1 ?_))
        unfold ycnewi
        rw [e2]
      · cases h2
    · rw [Bool.and_eq_true, Bool.and_eq_true] at h
      obtain ⟨F0, H0, h0⟩ := ezpre_s H h.2
      obtain ⟨F2, fr2, g2, a1, a2, a3⟩ := ezstep_s (T := T) H0 hol _ h0
      refine yv_on0 (fun n => ?_) (hk _ _ _ _ _ _ _ a2 a1)
      rw [hr, xspec_s e (xbnot h.1.1)]
      refine xbt h.1.2 ?_
      have a3 : ycstep (ytMI T mid).2.1 (ytMI T mid).2.2.2.1 (ytFD T mid) (ytKC T mid) (ytKL T mid) (ytST T mid) (ytOL T) _ (ezdF r (pc, lv, st)).1 (ezdF r (pc, lv, st)).2.1 (ezdF r (pc, lv, st)).2.2 (ezhp T r g) = some (ezdF r fr2, ezhp T r g2) := a3
      rw [a3]
/-- the same, place and instruction looked at first: what comes of them is kept -/
def ezcomp (T : ycT) (mid pc : Nat) : (ezEn_ → ezCo_ → List (Nat × xV) → List xV → ezHp → List xFr → Nat → Nat → xF → Bool) × Unit :=
  match ytP T mid pc with
  | none => (fun _ _ _ _ _ _ _ _ _ => false, ())
  | some (ins, len) =>
    match ins with
    | .return_ => (fun E k _ st g S mc ms F => Nat.beq len 1 && ezret E k .return_ (ytMI T mid).2.2.1 st g S mc ms F, ())
    | .ireturn => (fun E k _ st g S mc ms F => Nat.beq len 1 && ezret E k .ireturn (ytMI T mid).2.2.1 st g S mc ms F, ())
    | .lreturn => (fun E k _ st g S mc ms F => Nat.beq len 1 && ezret E k .lreturn (ytMI T mid).2.2.1 st g S mc ms F, ())
    | .areturn => (fun E k _ st g S mc ms F => Nat.beq len 1 && ezret E k .areturn (ytMI T mid).2.2.1 st g S mc ms F, ())
    | .invokestatic i => (fun _ k lv st g S mc ms F => Nat.beq len 3 && ezcall T k mid i 0 (pc, lv, st) g S mc ms F, ())
    | .invokevirtual i => (fun _ k lv st g S mc ms F => Nat.beq len 3 && ezcall T k mid i 1 (pc, lv, st) g S mc ms F, ())
    | .invokespecial i => (fun _ k lv st g S mc ms F => Nat.beq len 3 && ezcall T k mid i 2 (pc, lv, st) g S mc ms F, ())
    | .new i => (match ytNX T mid i with | some (e, n) => (fun E k lv st g S mc ms F => Nat.beq len 3 && ezthrow T E k mid i e n (pc, lv, st) g S mc ms F, ()) | none => (fun _ _ _ _ _ _ _ _ _ => false, ()))
    | ins => bif !(xspec ins) && (ycisw ins || Nat.beq len (yclen ins)) then (fun _ k lv st g S mc ms F => ezpre ins st F (fun F => ezstep (ytMI T mid).2.1 (ytMI T mid).2.2.2.1 (ytFD T mid) (ytKC T mid) (ytKL T mid) (ytST T mid) ins F pc lv st g (fun F2 fr2 g2 => k mid fr2 g2 S mc ms F2)), ()) else (fun _ _ _ _ _ _ _ _ _ => false, ())
set_option maxHeartbeats 4000000 in
theorem ezcomp_i {E : ezEn_} {k : ezCo_} {mid pc : Nat} {lv : List (Nat × xV)} {st : List xV} {g : ezHp} {S : List xFr} {mc ms : Nat} (h : (ezcomp T mid pc).1 E k lv st g S mc ms F = true) : ezbody T E k mid pc lv st g S mc ms F = true := by
  unfold ezcomp at h
  unfold ezbody
  cases hq : ytP T mid pc with
  | none =>
    simp only [hq] at h
    cases h
  | some q =>
    obtain ⟨ins, len⟩ := q
    simp only [hq] at h ⊢
    have gen : ∀ ins : Instr, (bif !(xspec ins) && (ycisw ins || Nat.beq len (yclen ins)) then ((fun _ k lv st g S mc ms F => ezpre ins st F (fun F => ezstep (ytMI T mid).2.1 (ytMI T mid).2.2.2.1 (ytFD T mid) (ytKC T mid) (ytKL T mid) (ytST T mid) ins F pc lv st g (fun F2 fr2 g2 => k mid fr2 g2 S mc ms F2)), ()) : (ezEn_ → ezCo_ → List (Nat × xV) → List xV → ezHp → List xFr → Nat → Nat → xF → Bool) × Unit) else (fun _ _ _ _ _ _ _ _ _ => false, ())).1 E k lv st g S mc ms F = true →
        ((!(xspec ins) && (ycisw ins || Nat.beq len (yclen ins))) && ezpre ins st F (fun F => ezstep (ytMI T mid).2.1 (ytMI T mid).2.2.2.1 (ytFD T mid) (ytKC T mid) (ytKL T mid) (ytST T mid) ins F pc lv st g (fun F2 fr2 g2 => k mid fr2 g2 S mc ms F2))) = true := by
      intro ins h
      cases hc : !(xspec ins) && (ycisw ins || Nat.beq len (yclen ins)) with
      | true =>
        rw [hc] at h
        exact h
      | false =>
        rw [hc] at h
        cases h
    cases ins
    case new i =>
      cases hn : ytNX T mid i with
      | none =>
        simp only [hn] at h
        cases h
      | some q =>
        simp only [hn] at h ⊢
        exact h
    all_goals first
      | exact gen _ h
      | exact h
/-- has a method a contract -/
def ezhas (C : List (Nat × ezCon)) (m : Nat) : Bool := List.rec (motive := fun _ => Bool) false (fun q _ ih => bif Nat.beq q.1 m then true else ih) C
/-- a place of the method's own: cut, or with what is told there -/
def ezdis0 (hd : Nat → Bool) (W : ezHts) (A : ezCo_) (k : ezCo_) : ezCo_ := fun mid fr g S mc ms F => match S with
  | [] => bif hd fr.1 then A mid fr g [] mc ms F else ezht W fr g.1 F (fun F => k mid fr g [] mc ms F)
  | f :: S2 => k mid fr g (f :: S2) mc ms F
theorem ezdis0_s {P : ycL → Prop} {hd : Nat → Bool} {W : ezHts} {A k : ezCo_} {r : ezR} (hA : ezKok T Q r P A) (hk : ezKok T Q r P k) : ezKok T Q r P (ezdis0 hd W A k) := by
  intro mid fr g S mc ms F h H
  unfold ezdis0 at h
  split at h
  · cases hh : hd fr.1 with
    | true => rw [hh] at h; exact hA _ _ _ _ _ _ _ h H
    | false =>
      rw [hh] at h
      obtain ⟨F2, H2, h2⟩ := ezht_s H h
      exact hk _ _ _ _ _ _ _ h2 H2
  · exact hk _ _ _ _ _ _ _ h H
/-- where a state goes on: a place of the method's own that is cut, a call by contract, or a step -/
def ezdisp (T : ycT) (C : List (Nat × ezCon)) (E : ezEn_) (hd : Nat → Bool) (W : ezHts) (A : ezCo_) (k : ezCo_) : ezCo_ := fun mid fr g S mc ms F => match S with
  | [] => bif hd fr.1 then A mid fr g [] mc ms F else ezht W fr g.1 F (fun F => k mid fr g [] mc ms F)
  | f :: S2 => bif Nat.beq fr.1 0 && ezhas C mid then (Nat.beq mc 0 && (Nat.beq ms 0 && fr.2.2.isEmpty)) && C.any (fun q => Nat.beq q.1 mid && ezcc T E (ezdis0 hd W A k) q.2 fr.2.1 g (f :: S2) F) else k mid fr g (f :: S2) mc ms F
def ezrun (T : ycT) (C : List (Nat × ezCon)) (E : ezEn_) (hd : Nat → Bool) (W : ezHts) (A : ezCo_) (n : Nat) : ezCo_ := Nat.rec (motive := fun _ => ezCo_) (fun _ _ _ _ _ _ _ => false) (fun _ ih mid fr g S mc ms F => xfn mid (fun mid => xfn fr.1 (fun pc => (ezcomp T mid pc).1 E (ezdisp T C E hd W A ih) fr.2.1 fr.2.2 g S mc ms F))) n
theorem ezdisp_s {P : ycL → Prop} {C : List (Nat × ezCon)} {E : ezEn_} {hd : Nat → Bool} {W : ezHts} {A k : ezCo_} (hQ : ∀ (r : ezR) (N : Nat) (x : Int) (n : Nat) (G : Int → Int → Int), 8192 ≤ N → N % 64 ≠ 0 → 2 ≤ n → Q r → Q (ezfr r N x n G)) (hol : ∀ r, Q r → ezol T r) (hC : ∀ q ∈ C, ezMet T q.1 q.2) (hE : ∀ r, ezEok T Q r P E) (hA : ∀ r, ezKok T Q r P A) (hk : ∀ r, ezKok T Q r P k) : ∀ r, ezKok T Q r P (ezdisp T C E hd W A k) := by
  intro r mid fr g S mc ms F h H
  unfold ezdisp at h
  split at h
  · cases hh : hd fr.1 with
    | true => rw [hh] at h; exact hA r _ _ _ _ _ _ _ h H
    | false =>
      rw [hh] at h
      obtain ⟨F2, H2, h2⟩ := ezht_s H h
      exact hk r _ _ _ _ _ _ _ h2 H2
  · rename_i f S2
    cases h0 : Nat.beq fr.1 0 && ezhas C mid with
    | false => rw [h0] at h; exact hk r _ _ _ _ _ _ _ h H
    | true =>
      rw [h0] at h
      simp only [cond_true] at h
      rw [Bool.and_eq_true, Bool.and_eq_true, Bool.and_eq_true] at h
      obtain ⟨⟨h1, h2, h3⟩, h4⟩ := h
      obtain ⟨q, hq, h5⟩ := List.any_eq_true.mp h4
      rw [Bool.and_eq_true] at h5
      rw [Bool.and_eq_true] at h0
      have e1 := Nat.eq_of_beq_eq_true h1
      have e2 := Nat.eq_of_beq_eq_true h2
      have e3 := Nat.eq_of_beq_eq_true h0.1
      have e4 := List.isEmpty_iff.mp h3
      have e5 := Nat.eq_of_beq_eq_true h5.1
      obtain ⟨pc, lv, st⟩ := fr
      have e3 : pc = 0 := e3
      have e4 : st = [] := e4
      subst e1 e2 e3 e4 e5
      exact ezcc_s hQ hol hE (fun r => ezdis0_s (hA r) (hk r)) (hC q hq) H h5.2
theorem ezrun_s {P : ycL → Prop} {C : List (Nat × ezCon)} {E : ezEn_} {hd : Nat → Bool} {W : ezHts} {A : ezCo_} (hQ : ∀ (r : ezR) (N : Nat) (x : Int) (n : Nat) (G : Int → Int → Int), 8192 ≤ N → N % 64 ≠ 0 → 2 ≤ n → Q r → Q (ezfr r N x n G)) (hol : ∀ r, Q r → ezol T r) (hC : ∀ q ∈ C, ezMet T q.1 q.2) (hE : ∀ r, ezEok T Q r P E) (hA : ∀ r, ezKok T Q r P A) : ∀ n r, ezKok T Q r P (ezrun T C E hd W A n) := by
  intro n
  induction n with
  | zero => intro r mid fr g S mc ms F h; cases h
  | succ n ih =>
    intro r mid fr g S mc ms F h H
    have h : xfn mid (fun mid => xfn fr.1 (fun pc => (ezcomp T mid pc).1 E (ezdisp T C E hd W A (ezrun T C E hd W A n)) fr.2.1 fr.2.2 g S mc ms F)) = true := h
    rw [xfn_s, xfn_s] at h
    exact ezbody_s H (hol r H.1.2) (hE r) (ezdisp_s hQ hol hC hE hA ih r) (ezcomp_i h)
end EZC
