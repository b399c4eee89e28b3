noncomputable section EZ7
variable {Q : ezR → Prop} {T : ycT} {r : ezR} {F : xF}
abbrev ezCo_ := Nat → xFm → ezHp → List xFr → Nat → Nat → xF → Bool
abbrev ezEn_ := xF → Nat → xV → ezHp → Nat → Nat → Bool
def ezdS (r : ezR) (S : List xFr) : List yvF := S.map fun f => (f.1, f.2.1, ezdl r f.2.2.1, f.2.2.2.1.map (ezdv r), f.2.2.2.2.1, (r.2.2 && f.2.2.2.2.2.1), f.2.2.2.2.2.2.1, f.2.2.2.2.2.2.2)
theorem ezwide_s (r : ezR) : ∀ l : List xV, ycwide (l.map (ezdv r)) = xwide l := by
  intro l
  induction l with
  | nil => rfl
  | cons v vs ih => show (bif Nat.beq v.1 1 then 2 else 1) + ycwide (vs.map (ezdv r)) = _; rw [ih]; rfl
theorem ezargs_s (r : ezR) : ∀ (l : List xV) (i : Nat), ezdl r (xargs i l) = ycargs i (l.map (ezdv r)) := by
  intro l
  induction l with
  | nil => intro i; rfl
  | cons v vs ih => intro i; show (i, ezdv r v) :: ezdl r (xargs (bif Nat.beq v.1 1 then i + 2 else i + 1) vs) = _; rw [ih]; rfl
theorem ezhp_fl {g : ezHp} {b : Bool} : (((ezhp T r g).1, (ezhp T r g).2.1, (ezhp T r g).2.2 && (r.2.2 && b)) : ycH) = ezhp T r (g.1, g.2.1, g.2.2 && b) := by
  refine Prod.ext rfl (Prod.ext rfl ?_)
  show ((r.2.2 && g.2.2) && (r.2.2 && b)) = (r.2.2 && (g.2.2 && b))
  cases r.2.2 <;> cases g.2.2 <;> rfl
/-- an end of the method -/
def ezend (E : ezEn_) (k : ezCo_) (sort : Nat) (v : xV) (g : ezHp) (S : List xFr) (mc ms : Nat) (F : xF) : Bool := match S with
  | [] => E F sort v g mc ms
  | f :: S2 => (match sort with
    | 0 => Nat.beq f.2.2.2.2.1 0 && xfn (f.2.1 + 3) (fun pc => xfn (f.2.2.2.2.2.2.1 + mc) (fun mc => xfn (f.2.2.2.2.2.2.2 + ms) (fun ms => k f.1 (pc, f.2.2.1, f.2.2.2.1) (g.1, g.2.1, g.2.2 && f.2.2.2.2.2.1) S2 mc ms F)))
    | 1 => !(Nat.beq f.2.2.2.2.1 0) && xfn (f.2.1 + 3) (fun pc => xfn (f.2.2.2.2.2.2.1 + mc) (fun mc => xfn (f.2.2.2.2.2.2.2 + ms) (fun ms => k f.1 (pc, f.2.2.1, v :: f.2.2.2.1) (g.1, g.2.1, g.2.2 && f.2.2.2.2.2.1) S2 mc ms F)))
    | _ => false)
def ezEok (T : ycT) (Q : ezR → Prop) (r : ezR) (P : ycL → Prop) (E : ezEn_) : Prop := ∀ F sort v g mc ms, E F sort v g mc ms = true → ezH Q r F → P (sort, ezdv r v, mc, ms, ezhp T r g)
def ezKok (T : ycT) (Q : ezR → Prop) (r : ezR) (P : ycL → Prop) (k : ezCo_) : Prop := ∀ mid fr g S mc ms F, k mid fr g S mc ms F = true → ezH Q r F → yvG T (ezdS r S) P mid (ezdF r fr) (ezhp T r g) mc ms
theorem ezend_s (H : ezH Q r F) {P : ycL → Prop} {E : ezEn_} {k : ezCo_} (hE : ezEok T Q r P E) (hk : ezKok T Q r P k) {sort : Nat} {v : xV} {g : ezHp} {S : List xFr} {mc ms : Nat} (hs : sort = 0 ∨ sort = 1) (h : ezend E k sort v g S mc ms F = true) {mid : Nat} {fr : ycF} {g0 : ycH} (hr : ycrun T 1 mid fr g0 = some (sort, ezdv r v, 0, 0, ezhp T r g)) : yvG T (ezdS r S) P mid fr g0 mc ms := by
  unfold ezend at h
  split at h
  · exact ⟨1, _, hr, hE _ _ _ _ _ _ h H⟩
  · rename_i f S2
    rcases hs with rfl | rfl
    · simp only [Bool.and_eq_true, xfn_s] at h
      refine yv_end hr (fun k => ?_) (hk _ _ _ _ _ _ _ h.2 H)
      show (bif Nat.beq f.2.2.2.2.1 0 then ycthen mc ms (ycrun T k f.1 (f.2.1 + 3, ezdl r f.2.2.1, f.2.2.2.1.map (ezdv r)) ((ezhp T r g).1, (ezhp T r g).2.1, (ezhp T r g).2.2 && (r.2.2 && f.2.2.2.2.2.1))) else none) = _
      rw [h.1, ezhp_fl]; rfl
    · simp only [Bool.and_eq_true, xfn_s] at h
      refine yv_end hr (fun k => ?_) (hk _ _ _ _ _ _ _ h.2 H)
      show (bif Nat.beq f.2.2.2.2.1 0 then none else ycthen mc ms (ycrun T k f.1 (f.2.1 + 3, ezdl r f.2.2.1, ezdv r v :: f.2.2.2.1.map (ezdv r)) ((ezhp T r g).1, (ezhp T r g).2.1, (ezhp T r g).2.2 && (r.2.2 && f.2.2.2.2.2.1)))) = _
      rw [xbnot h.1, ezhp_fl]; rfl
def ezret (E : ezEn_) (k : ezCo_) (ins : Instr) (ret : Nat) (st : List xV) (g : ezHp) (S : List xFr) (mc ms : Nat) (F : xF) : Bool := match ins, st with
  | .return_, [] => Nat.beq ret 0 && ezend E k 0 (3, .num 0) g S mc ms F
  | .ireturn, [(0, e)] => (Nat.beq ret 1 || (Nat.beq ret 2 && ezbit F e)) && ezend E k 1 (0, e) g S mc ms F
  | .lreturn, [(1, e)] => Nat.beq ret 3 && ezend E k 1 (1, e) g S mc ms F
  | .areturn, [(2, e)] => Nat.beq ret 4 && ezend E k 1 (2, e) g S mc ms F
  | _, _ => false
theorem ezret_s (H : ezH Q r F) {P : ycL → Prop} {E : ezEn_} {k : ezCo_} (hE : ezEok T Q r P E) (hk : ezKok T Q r P k) {ins : Instr} {ret : Nat} {st : List xV} {g : ezHp} {S : List xFr} {mc ms : Nat} (h : ezret E k ins ret st g S mc ms F = true) {mid : Nat} {fr : ycF} {g0 : ycH} (hr : ycrun T 1 mid fr g0 = ycret ins ret (st.map (ezdv r)) (ezhp T r g)) : yvG T (ezdS r S) P mid fr g0 mc ms := by
  unfold ezret at h
  split at h
  · rw [Bool.and_eq_true] at h
    refine ezend_s H hE hk (Or.inl rfl) h.2 (hr.trans ?_)
    show (bif Nat.beq ret 0 then _ else none) = _
    rw [h.1]; rfl
  · rename_i e
    rw [Bool.and_eq_true] at h
    refine ezend_s H hE hk (Or.inr rfl) h.2 (hr.trans ?_)
    show (bif Nat.beq ret 1 || (Nat.beq ret 2 && (decide (ezden r e = 0) || decide (ezden r e = 1))) then _ else none) = _
    have h1 := h.1
    rw [Bool.or_eq_true, Bool.and_eq_true] at h1
    rcases h1 with h1 | h1
    · rw [h1]; rfl
    · rw [h1.1, ezbit_s H h1.2, Bool.and_self, Bool.or_true]; rfl
  · rw [Bool.and_eq_true] at h
    refine ezend_s H hE hk (Or.inr rfl) h.2 (hr.trans ?_)
    show (bif Nat.beq ret 3 then _ else none) = _
    rw [h.1]; rfl
  · rw [Bool.and_eq_true] at h
    refine ezend_s H hE hk (Or.inr rfl) h.2 (hr.trans ?_)
    show (bif Nat.beq ret 4 then _ else none) = _
    rw [h.1]; rfl
  · cases h
/-- an exception on its way out -/
def ezthr (T : ycT) (E : ezEn_) (k : ezCo_) (e : Nat) (F : xF) : List xFr → ezHp → Nat → Nat → Bool
  | [], g, mc, ms => E F (e + 2) (3, .num 0) g mc ms
  | f :: S2, g, mc, ms => (match ychand (ytNX T f.1) e f.2.1 (ytHD T f.1) with
    | none => false
    | some none => ezthr T E k e F S2 (g.1, g.2.1, g.2.2 && f.2.2.2.2.2.1) (f.2.2.2.2.2.2.1 + mc) (f.2.2.2.2.2.2.2 + ms)
    | some (some h) => (match ytP T f.1 h with
      | some (.astore_n i, 1) => Nat.blt i (ytMI T f.1).2.1 && xdr f.2.2.1 i (fun l => xfn (f.2.2.2.2.2.2.1 + mc) (fun mc => xfn (f.2.2.2.2.2.2.2 + ms) (fun ms => k f.1 (h + 1, l, []) (g.1, g.2.1, g.2.2 && f.2.2.2.2.2.1) S2 mc ms F)))
      | some (.astore i, 2) => Nat.blt i (ytMI T f.1).2.1 && xdr f.2.2.1 i (fun l => xfn (f.2.2.2.2.2.2.1 + mc) (fun mc => xfn (f.2.2.2.2.2.2.2 + ms) (fun ms => k f.1 (h + 2, l, []) (g.1, g.2.1, g.2.2 && f.2.2.2.2.2.1) S2 mc ms F)))
      | _ => false))
theorem ezthr_s (H : ezH Q r F) {P : ycL → Prop} {E : ezEn_} {k : ezCo_} (hE : ezEok T Q r P E) (hk : ezKok T Q r P k) {e : Nat} : ∀ (S : List xFr) (g : ezHp) (mc ms : Nat), ezthr T E k e F S g mc ms = true → yvS T (ezdS r S) P (e + 2, (3, 0), mc, ms, ezhp T r g) := by
  intro S
  induction S with
  | nil => intro g mc ms h; exact hE _ _ _ _ _ _ h H
  | cons f S ih =>
    intro g mc ms h
    unfold ezthr at h
    split at h
    · cases h
    · rename_i e1
      refine yv_thru (w := (e + 2, (3, 0), mc, ms, ezhp T r (g.1, g.2.1, g.2.2 && f.2.2.2.2.2.1))) (fun k => ?_) (ih _ _ _ h)
      show (match ychand (ytNX T f.1) e f.2.1 (ytHD T f.1) with | none => none | some none => _ | some (some h) => _) = _
      rw [e1, ← ezhp_fl]
    · rename_i h9 e1
      split at h
      · rename_i i e2
        simp only [Bool.and_eq_true, xfn_s] at h
        obtain ⟨l2, b1, b2⟩ := ezdr_s (r := r) h.2
        obtain ⟨n, w, c1, c2⟩ := hk _ _ _ _ _ _ _ b1 H
        refine ⟨n, ycmore mc ms w, ?_, ?_⟩
        · show (match ychand (ytNX T f.1) e f.2.1 (ytHD T f.1) with | none => none | some none => _ | some (some h) => _) = _
          rw [e1]
          show (match ytP T f.1 h9 with | some (.astore_n i, 1) => _ | some (.astore i, 2) => _ | _ => none) = _
          rw [e2]
          show (bif Nat.blt i (ytMI T f.1).2.1 then ycthen mc ms (ycrun T n f.1 (h9 + 1, ycdrop (ezdl r f.2.2.1) i, []) _) else none) = _
          rw [h.1, ← b2]
          have c1 : ycrun T n f.1 (h9 + 1, ezdl r l2, []) (ezhp T r (g.1, g.2.1, g.2.2 && f.2.2.2.2.2.1)) = some w := c1
          show ycthen mc ms (ycrun T n f.1 (h9 + 1, ezdl r l2, []) ((ezhp T r g).1, (ezhp T r g).2.1, (ezhp T r g).2.2 && (r.2.2 && f.2.2.2.2.2.1))) = _
          rw [ezhp_fl, c1]; rfl
        · rw [yc_more]
          exact c2
      · rename_i i e2
        simp only [Bool.and_eq_true, xfn_s] at h
        obtain ⟨l2, b1, b2⟩ := ezdr_s (r := r) h.2
        obtain ⟨n, w, c1, c2⟩ := hk _ _ _ _ _ _ _ b1 H
        refine ⟨n, ycmore mc ms w, ?_, ?_⟩
        · show (match ychand (ytNX T f.1) e f.2.1 (ytHD T f.1) with | none => none | some none => _ | some (some h) => _) = _
          rw [e1]
          show (match ytP T f.1 h9 with | some (.astore_n i, 1) => _ | some (.astore i, 2) => _ | _ => none) = _
          rw [e2]
          show (bif Nat.blt i (ytMI T f.1).2.1 then ycthen mc ms (ycrun T n f.1 (h9 + 2, ycdrop (ezdl r f.2.2.1) i, []) _) else none) = _
          rw [h.1, ← b2]
          have c1 : ycrun T n f.1 (h9 + 2, ezdl r l2, []) (ezhp T r (g.1, g.2.1, g.2.2 && f.2.2.2.2.2.1)) = some w := c1
          show ycthen mc ms (ycrun T n f.1 (h9 + 2, ezdl r l2, []) ((ezhp T r g).1, (ezhp T r g).2.1, (ezhp T r g).2.2 && (r.2.2 && f.2.2.2.2.2.1))) = _
          rw [ezhp_fl, c1]; rfl
        · rw [yc_more]
          exact c2
      · cases h
theorem ezhp_f0 {g : ezHp} : ezhp T r (g.1, g.2.1, false) = (((ezhp T r g).1, (ezhp T r g).2.1, false) : ycH) := by
  refine Prod.ext rfl (Prod.ext rfl ?_)
  show (r.2.2 && false) = false
  exact Bool.and_false _
def ezthrow (T : ycT) (E : ezEn_) (k : ezCo_) (mid i e n : Nat) (fr : xFm) (g : ezHp) (S : List xFr) (mc ms : Nat) (F : xF) : Bool :=
  match ytP T mid (fr.1 + 3), ytP T mid (fr.1 + 4), ytP T mid (fr.1 + 7) with
  | some (.dup, 1), some (.invokespecial j, 3), some (.athrow, 1) =>
    ((match ytNI T mid j with | some e2 => Nat.beq e e2 | none => false) && ((ytHD T mid).isEmpty && (Nat.blt (n + 3) (ytRM T mid).1 && Nat.ble (xwide fr.2.2 + (13 * (n + 1) + 42)) (ytRM T mid).2))) && ezthr T E k e F S (g.1, g.2.1, false) (mc + 1) (ms + 6)
  | _, _, _ => false
theorem ezthrow_s (H : ezH Q r F) {P : ycL → Prop} {E : ezEn_} {k : ezCo_} (hE : ezEok T Q r P E) (hk : ezKok T Q r P k) {mid i e n : Nat} {fr : xFm} {g : ezHp} {S : List xFr} {mc ms : Nat} (h : ezthrow T E k mid i e n fr g S mc ms F = true) (hr : ycrun T 1 mid (ezdF r fr) (ezhp T r g) = ycthrow T mid i e n (ezdF r fr) (ezhp T r g)) : yvG T (ezdS r S) P mid (ezdF r fr) (ezhp T r g) mc ms := by
  unfold ezthrow at h
  split at h
  · rename_i j e1 e2 e3
    rw [Bool.and_eq_true] at h
    refine ⟨1, (e + 2, (3, 0), 1, 6, ezhp T r (g.1, g.2.1, false)), hr.trans ?_, ezthr_s H hE hk _ _ _ _ h.2⟩
    unfold ycthrow
    show (match ytP T mid (fr.1 + 3), ytP T mid (fr.1 + 4), ytP T mid (fr.1 + 7) with | some (.dup, 1), some (.invokespecial j, 3), some (.athrow, 1) => _ | _, _, _ => none) = _
    rw [e1, e2, e3]
    show (bif (match ytNI T mid j with | some e2 => Nat.beq e e2 | none => false) && ((ytHD T mid).isEmpty && (Nat.blt (n + 3) (ytRM T mid).1 && Nat.ble (ycwide (fr.2.2.map (ezdv r)) + (13 * (n + 1) + 42)) (ytRM T mid).2)) then some (e + 2, (3, 0), 1, 6, ((ezhp T r g).1, (ezhp T r g).2.1, false)) else none) = _
    rw [ezwide_s, h.1, ezhp_f0]; rfl
  · cases h
end EZ7
