noncomputable section YTA
/-! SYMBOLIC RUNS: the run -/
variable {T : ycT} {r : Nat → Int} {F : xF}
theorem xmul2_s (H : xH r F) {P : ycL → Prop} {k : xCo} (hk : xKok T r P k) {mid i : Nat} {fr : xFm} {g : xHp} {S : List xFr} {mc ms : Nat} (h : xmul2 T k mid i fr g S mc ms F = true) (hr : ∀ n, ycrun T (n + 1) mid (xdF r fr) (xdH T r g) = ycmul T (ycrun T n) mid i (xdF r fr) (xdH T r g)) : yvG T (xdS r S) P mid (xdF r fr) (xdH T r g) mc ms := by
  obtain ⟨pc, lv, st⟩ := fr
  unfold xmul2 at h
  split at h
  · rename_i kind w n rest e1 e2
    have e2 : st = (0, .num w) :: (0, .num n) :: rest := e2
    subst e2
    rw [Bool.and_eq_true, Bool.and_eq_true (Nat.ble 14 kind && Nat.ble 14 (kind - 5)), Bool.and_eq_true (Nat.ble 14 kind)] at h
    obtain ⟨h1, ⟨h2, h3⟩, h4⟩ := h
    have h2 := Nat.ble_eq.mp h2
    have h3 := Nat.ble_eq.mp h3
    have hn := xmk_n h4
    obtain ⟨g2, b1, b2⟩ := xmk_s (T := T) (r := r) (f := fun j => bif Nat.blt j (y32 n).toNat then (2, ((g.2.1 + 1 + j : Nat) : Int)) else ycadf kind) h4 (fun j hj => by
      show _ = (bif Nat.blt j (y32 n).toNat then _ else _)
      rw [xct_of (by omega) rfl, ycblt hj]; rfl) (fun j hj => by
      show xdf T kind j = (bif Nat.blt j (y32 n).toNat then _ else _)
      rw [ycblf hj]
      unfold xdf
      rw [ycblf h2]; rfl)
    obtain ⟨g3, c1, c2⟩ := xmks_s (T := T) (r := r) (f := fun _ => ycadf (kind - 5)) (fun j _ => xct_df _ j) (fun j _ => by unfold xdf; rw [ycblf h3]; rfl) _ _ _ b1
    simp only [xfn_s] at c1
    refine yv_on (a := 1 + (y32 n).toNat) (b := (y32 n).toNat + (y32 n).toNat * (y32 w).toNat) (fun m => ?_) (hk _ _ _ _ _ _ _ c1 H)
    rw [hr]
    unfold ycmul
    show (match ytNA T mid i, (0, w) :: (0, n) :: rest.map (xdv r) with | some kind, (0, k) :: (0, n) :: rest => _ | _, _ => none) = _
    rw [e1]
    refine xbt h1 ?_
    rw [c2, b2, ycmm_e]; rfl
  · cases h
/-- not a simple instruction -/
def xspec : Instr → Bool
  | .return_ | .ireturn | .lreturn | .areturn | .invokestatic _ | .invokevirtual _ | .invokespecial _ | .new _ | .newarray _ | .anewarray _ | .multianewarray _ _ => true
  | _ => false
set_option maxHeartbeats 4000000 in
theorem xspec_s {run : ycRun} {mid : Nat} {fr : ycF} {g : ycH} {ins : Instr} {len : Nat} (he : ytP T mid fr.1 = some (ins, len)) (hs : xspec ins = false) : ycbody T run mid fr g = bif ycisw ins || Nat.beq len (yclen ins) then (match ycstep (ytMI T mid).2.1 (ytMI T mid).2.2.2.1 (ytFD T mid) (ytKC T mid) (ytKL T mid) (ytST T mid) (ytOL T) ins fr.1 fr.2.1 fr.2.2 g with
    | some (fr2, g2) => run mid fr2 g2
    | none => none) else none := by
  unfold ycbody
  simp only [he]
  cases ins <;> first | rfl | cases hs
/-- a step of a run, whatever it is -/
def xbody (T : ycT) (ol : xO) (E : xEn) (k : xCo) (mid : Nat) (fr : xFm) (g : xHp) (S : List xFr) (mc ms : Nat) (F : xF) : Bool :=
  match ytP T mid fr.1 with
  | none => false
  | some (ins, len) =>
    match ins with
    | .return_ => Nat.beq len 1 && xret E k .return_ (ytMI T mid).2.2.1 fr.2.2 g S mc ms F
    | .ireturn => Nat.beq len 1 && xret E k .ireturn (ytMI T mid).2.2.1 fr.2.2 g S mc ms F
    | .lreturn => Nat.beq len 1 && xret E k .lreturn (ytMI T mid).2.2.1 fr.2.2 g S mc ms F
    | .areturn => Nat.beq len 1 && xret E k .areturn (ytMI T mid).2.2.1 fr.2.2 g S mc ms F
    | .invokestatic i => Nat.beq len 3 && xcall T k mid i 0 fr g S mc ms F
    | .invokevirtual i => Nat.beq len 3 && xcall T k mid i 1 fr g S mc ms F
    | .invokespecial i => Nat.beq len 3 && xcall T k mid i 2 fr g S mc ms F
    | .new i => Nat.beq len 3 && xnewi T E k mid i fr g S mc ms F
    | .newarray a => Nat.beq len 2 && xnewa k mid a fr g S mc ms F
    | .anewarray i => Nat.beq len 3 && xanew T k mid i fr g S mc ms F
    | .multianewarray i d => (Nat.beq len 4 && Nat.beq d 2) && xmul2 T k mid i fr g S mc ms F
    | ins => (!(xspec ins) && (ycisw ins || Nat.beq len (yclen ins))) && xstep (ytMI T mid).2.1 (ytMI T mid).2.2.2.1 (ytFD T mid) (ytKC T mid) (ytKL T mid) (ytST T mid) ol ins F fr.1 fr.2.1 fr.2.2 g (fun F2 fr2 g2 => k mid fr2 g2 S mc ms F2)
/-- the same, place and instruction looked at first: what comes of them is kept -/
def xcomp (T : ycT) (ol : xO) (mid pc : Nat) : (xEn → xCo → List (Nat × xV) → List xV → xHp → List xFr → Nat → Nat → xF → Bool) × Unit :=
  match ytP T mid pc with
  | none => (fun _ _ _ _ _ _ _ _ _ => false, ())
  | some (ins, len) =>
    match ins with
    | .return_ => (fun E k _ st g S mc ms F => Nat.beq len 1 && xret E k .return_ (ytMI T mid).2.2.1 st g S mc ms F, ())
    | .ireturn => (fun E k _ st g S mc ms F => Nat.beq len 1 && xret E k .ireturn (ytMI T mid).2.2.1 st g S mc ms F, ())
    | .lreturn => (fun E k _ st g S mc ms F => Nat.beq len 1 && xret E k .lreturn (ytMI T mid).2.2.1 st g S mc ms F, ())
    | .areturn => (fun E k _ st g S mc ms F => Nat.beq len 1 && xret E k .areturn (ytMI T mid).2.2.1 st g S mc ms F, ())
    | .invokestatic i => (fun _ k lv st g S mc ms F => Nat.beq len 3 && xcall T k mid i 0 (pc, lv, st) g S mc ms F, ())
    | .invokevirtual i => (fun _ k lv st g S mc ms F => Nat.beq len 3 && xcall T k mid i 1 (pc, lv, st) g S mc ms F, ())
    | .invokespecial i => (fun _ k lv st g S mc ms F => Nat.beq len 3 && xcall T k mid i 2 (pc, lv, st) g S mc ms F, ())
    | .new i => (fun E k lv st g S mc ms F => Nat.beq len 3 && xnewi T E k mid i (pc, lv, st) g S mc ms F, ())
    | .newarray a => (fun _ k lv st g S mc ms F => Nat.beq len 2 && xnewa k mid a (pc, lv, st) g S mc ms F, ())
    | .anewarray i => (fun _ k lv st g S mc ms F => Nat.beq len 3 && xanew T k mid i (pc, lv, st) g S mc ms F, ())
    | .multianewarray i d => (fun _ k lv st g S mc ms F => (Nat.beq len 4 && Nat.beq d 2) && xmul2 T k mid i (pc, lv, st) g S mc ms F, ())
    | ins => bif !(xspec ins) && (ycisw ins || Nat.beq len (yclen ins)) then (fun _ k lv st g S mc ms F => (xstepc (ytMI T mid).2.1 (ytMI T mid).2.2.2.1 (ytFD T mid) (ytKC T mid) (ytKL T mid) (ytST T mid) ol ins).1 F pc lv st g (fun F2 fr2 g2 => k mid fr2 g2 S mc ms F2), ()) else (fun _ _ _ _ _ _ _ _ _ => false, ())
set_option maxHeartbeats 4000000 in
theorem xcomp_i {ol : xO} {E : xEn} {k : xCo} {mid pc : Nat} {lv : List (Nat × xV)} {st : List xV} {g : xHp} {S : List xFr} {mc ms : Nat} (h : (xcomp T ol mid pc).1 E k lv st g S mc ms F = true) : xbody T ol E k mid (pc, lv, st) g S mc ms F = true := by
  unfold xcomp at h
  unfold xbody
  cases hq : ytP T mid pc with
  | none =>
    simp only [hq] at h
    cases h
  | some q =>
    obtain ⟨ins, len⟩ := q
    simp only [hq] at h ⊢
    have gen : ∀ ins : Instr, (bif !(xspec ins) && (ycisw ins || Nat.beq len (yclen ins)) then ((fun _ k lv st g S mc ms F => (xstepc (ytMI T mid).2.1 (ytMI T mid).2.2.2.1 (ytFD T mid) (ytKC T mid) (ytKL T mid) (ytST T mid) ol ins).1 F pc lv st g (fun F2 fr2 g2 => k mid fr2 g2 S mc ms F2), ()) : (xEn → xCo → List (Nat × xV) → List xV → xHp → List xFr → Nat → Nat → xF → Bool) × Unit) else (fun _ _ _ _ _ _ _ _ _ => false, ())).1 E k lv st g S mc ms F = true →
        ((!(xspec ins) && (ycisw ins || Nat.beq len (yclen ins))) && xstep (ytMI T mid).2.1 (ytMI T mid).2.2.2.1 (ytFD T mid) (ytKC T mid) (ytKL T mid) (ytST T mid) ol ins F pc lv st g (fun F2 fr2 g2 => k mid fr2 g2 S mc ms F2)) = true := by
      intro ins h
      cases hc : !(xspec ins) && (ycisw ins || Nat.beq len (yclen ins)) with
      | true =>
        rw [hc] at h
        exact xstepc_i h
      | false =>
        rw [hc] at h
        cases h
    cases ins
    all_goals first
      | exact gen _ h
      | exact h
set_option maxHeartbeats 4000000 in
theorem xbody_s (H : xH r F) {P : ycL → Prop} {ol : xO} (hol : xolok r (ytOL T) ol) {E : xEn} {k : xCo} (hE : xEok T r P E) (hk : xKok T r P k) {mid : Nat} {fr : xFm} {g : xHp} {S : List xFr} {mc ms : Nat} (h : xbody T ol E k mid fr g S mc ms F = true) : yvG T (xdS r S) P mid (xdF r fr) (xdH T r g) mc ms := by
  have hr : ∀ n, ycrun T (n + 1) mid (xdF r fr) (xdH T r g) = ycbody T (ycrun T n) mid (xdF r fr) (xdH T r g) := fun n => rfl
  unfold xbody at h
  split at h
  · cases h
  · rename_i ins len e
    have hb : ∀ n, ycrun T (n + 1) mid (xdF r fr) (xdH T r g) = (match ytP T mid fr.1 with | none => none | some (ins, len) => _) := fun n => hr n
    simp only [e] at hb
    split at h
    · rw [Bool.and_eq_true] at h
      exact xret_s H hE hk h.2 ((hb 0).trans (xbt h.1 rfl))
    · rw [Bool.and_eq_true] at h
      exact xret_s H hE hk h.2 ((hb 0).trans (xbt h.1 rfl))
    · rw [Bool.and_eq_true] at h
      exact xret_s H hE hk h.2 ((hb 0).trans (xbt h.1 rfl))
    · rw [Bool.and_eq_true] at h
      exact xret_s H hE hk h.2 ((hb 0).trans (xbt h.1 rfl))
    · rw [Bool.and_eq_true] at h
      exact xcall_s H hk h.2 (fun n => (hb n).trans (xbt h.1 rfl))
    · rw [Bool.and_eq_true] at h
      exact xcall_s H hk h.2 (fun n => (hb n).trans (xbt h.1 rfl))
    · rw [Bool.and_eq_true] at h
      exact xcall_s H hk h.2 (fun n => (hb n).trans (xbt h.1 rfl))
    · rw [Bool.and_eq_true] at h
      exact xnewi_s H hE hk h.2 (fun n => (hb n).trans (xbt h.1 rfl))
    · rw [Bool.and_eq_true] at h
      exact xnewa_s H hk h.2 (fun n => (hb n).trans (xbt h.1 rfl))
    · rw [Bool.and_eq_true] at h
      exact xanew_s H hk h.2 (fun n => (hb n).trans (xbt h.1 rfl))
    · rw [Bool.and_eq_true] at h
      exact xmul2_s H hk h.2 (fun n => (hb n).trans (xbt h.1 rfl))
    · rw [Bool.and_eq_true, Bool.and_eq_true] at h
      obtain ⟨F2, fr2, g2, a1, a2, a3⟩ := xstep_s (T := T) H hol _ h.2
      refine yv_on0 (fun n => ?_) (hk _ _ _ _ _ _ _ a2 a1)
      rw [hr, xspec_s e (xbnot h.1.1)]
      refine xbt h.1.2 ?_
      have a3 : ycstep (ytMI T mid).2.1 (ytMI T mid).2.2.2.1 (ytFD T mid) (ytKC T mid) (ytKL T mid) (ytST T mid) (ytOL T) _ (xdF r fr).1 (xdF r fr).2.1 (xdF r fr).2.2 (xdH T r g) = some (xdF r fr2, xdH T r g2) := a3
      rw [a3]
/-- the run: after each step, is it to stop here -/
def xrun (T : ycT) (ol : xO) (E : xEn) (cut : Nat → Nat → Bool) (C : xCo) (n : Nat) : xCo := Nat.rec (motive := fun _ => xCo) C (fun _ ih mid fr g S mc ms F => xfn mid (fun mid => xfn fr.1 (fun pc => (xcomp T ol mid pc).1 E (fun mid fr g S mc ms F => (cut mid fr.1 && C mid fr g S mc ms F) || ih mid fr g S mc ms F) fr.2.1 fr.2.2 g S mc ms F))) n
theorem xrun_s {P : ycL → Prop} {ol : xO} (hol : xolok r (ytOL T) ol) {E : xEn} {cut : Nat → Nat → Bool} {C : xCo} (hE : xEok T r P E) (hC : xKok T r P C) : ∀ n, xKok T r P (xrun T ol E cut C n) := by
  intro n
  induction n with
  | zero => exact hC
  | succ n ih =>
    intro mid fr g S mc ms F h H
    have h : xfn mid (fun mid => xfn fr.1 (fun pc => (xcomp T ol mid pc).1 E (fun mid fr g S mc ms F => (cut mid fr.1 && C mid fr g S mc ms F) || xrun T ol E cut C n mid fr g S mc ms F) fr.2.1 fr.2.2 g S mc ms F)) = true := h
    rw [xfn_s, xfn_s] at h
    have h := xcomp_i h
    refine xbody_s H hol hE (fun mid fr g S mc ms F h H => ?_) h
    rw [Bool.or_eq_true, Bool.and_eq_true] at h
    rcases h with h | h
    · exact hC _ _ _ _ _ _ _ h.2 H
    · exact ih _ _ _ _ _ _ _ h H
end YTA
