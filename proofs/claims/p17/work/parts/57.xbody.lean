noncomputable section YT7
/-! SYMBOLIC RUNS: calls, ends, throws, new objects -/
variable {T : ycT} {r : Nat → Int} {F : xF}
/-- a frame that waits, as yvF -/
abbrev xFr := Nat × Nat × List (Nat × xV) × List xV × Nat × Bool × Nat × Nat
def xdS (r : Nat → Int) (S : List xFr) : List yvF := S.map fun f => (f.1, f.2.1, xdl r f.2.2.1, f.2.2.2.1.map (xdv r), f.2.2.2.2.1, f.2.2.2.2.2.1, f.2.2.2.2.2.2.1, f.2.2.2.2.2.2.2)
/-- what comes next: method, frame, heap, frames that wait, made in this frame, facts -/
abbrev xCo := Nat → xFm → xHp → List xFr → Nat → Nat → xF → Bool
/-- what an end must show -/
abbrev xEn := xF → Nat → xV → xHp → Nat → Nat → Bool
def xwide : List xV → Nat
  | [] => 0
  | v :: vs => (bif Nat.beq v.1 1 then 2 else 1) + xwide vs
theorem xwide_s (r : Nat → Int) : ∀ l : List xV, ycwide (l.map (xdv r)) = xwide l := by
  intro l
  induction l with
  | nil => rfl
  | cons v vs ih => show (bif Nat.beq v.1 1 then 2 else 1) + ycwide (vs.map (xdv r)) = _; rw [ih]; rfl
def xargs : Nat → List xV → List (Nat × xV)
  | _, [] => []
  | i, v :: vs => (i, v) :: xargs (bif Nat.beq v.1 1 then i + 2 else i + 1) vs
theorem xargs_s (r : Nat → Int) : ∀ (l : List xV) (i : Nat), xdl r (xargs i l) = ycargs i (l.map (xdv r)) := by
  intro l
  induction l with
  | nil => intro i; rfl
  | cons v vs ih => intro i; show (i, xdv r v) :: xdl r (xargs (bif Nat.beq v.1 1 then i + 2 else i + 1) vs) = _; rw [ih]; rfl
/-- an end of the method -/
def xend (E : xEn) (k : xCo) (sort : Nat) (v : xV) (g : xHp) (S : List xFr) (mc ms : Nat) (F : xF) : Bool := match S with
  | [] => E F sort v g mc ms
  | f :: S2 => (match sort with
    | 0 => Nat.beq f.2.2.2.2.1 0 && xfn (f.2.1 + 3) (fun pc => xfn (f.2.2.2.2.2.2.1 + mc) (fun mc => xfn (f.2.2.2.2.2.2.2 + ms) (fun ms => k f.1 (pc, f.2.2.1, f.2.2.2.1) (g.1, g.2.1, g.2.2 && f.2.2.2.2.2.1) S2 mc ms F)))
    | 1 => !(Nat.beq f.2.2.2.2.1 0) && xfn (f.2.1 + 3) (fun pc => xfn (f.2.2.2.2.2.2.1 + mc) (fun mc => xfn (f.2.2.2.2.2.2.2 + ms) (fun ms => k f.1 (pc, f.2.2.1, v :: f.2.2.2.1) (g.1, g.2.1, g.2.2 && f.2.2.2.2.2.1) S2 mc ms F)))
    | _ => false)
def xEok (T : ycT) (r : Nat → Int) (P : ycL → Prop) (E : xEn) : Prop := ∀ F sort v g mc ms, E F sort v g mc ms = true → xH r F → P (sort, xdv r v, mc, ms, xdH T r g)
def xKok (T : ycT) (r : Nat → Int) (P : ycL → Prop) (k : xCo) : Prop := ∀ mid fr g S mc ms F, k mid fr g S mc ms F = true → xH r F → yvG T (xdS r S) P mid (xdF r fr) (xdH T r g) mc ms
theorem xend_s (H : xH r F) {P : ycL → Prop} {E : xEn} {k : xCo} (hE : xEok T r P E) (hk : xKok T r P k) {sort : Nat} {v : xV} {g : xHp} {S : List xFr} {mc ms : Nat} (hs : sort = 0 ∨ sort = 1) (h : xend E k sort v g S mc ms F = true) {mid : Nat} {fr : ycF} {g0 : ycH} (hr : ycrun T 1 mid fr g0 = some (sort, xdv r v, 0, 0, xdH T r g)) : yvG T (xdS r S) P mid fr g0 mc ms := by
  unfold xend at h
  split at h
  · exact ⟨1, _, hr, hE _ _ _ _ _ _ h H⟩
  · rename_i f S2
    rcases hs with rfl | rfl
    · simp only [Bool.and_eq_true, xfn_s] at h
      refine yv_end hr (fun k => ?_) (hk _ _ _ _ _ _ _ h.2 H)
      show (bif Nat.beq f.2.2.2.2.1 0 then _ else none) = _
      rw [h.1]; rfl
    · simp only [Bool.and_eq_true, xfn_s] at h
      refine yv_end hr (fun k => ?_) (hk _ _ _ _ _ _ _ h.2 H)
      show (bif Nat.beq f.2.2.2.2.1 0 then none else _) = _
      rw [xbnot h.1]; rfl
def xret (E : xEn) (k : xCo) (ins : Instr) (ret : Nat) (st : List xV) (g : xHp) (S : List xFr) (mc ms : Nat) (F : xF) : Bool := match ins, st with
  | .return_, [] => Nat.beq ret 0 && xend E k 0 (3, .num 0) g S mc ms F
  | .ireturn, [(0, e)] => (Nat.beq ret 1 || (Nat.beq ret 2 && xbit F e)) && xend E k 1 (0, e) g S mc ms F
  | .lreturn, [(1, e)] => Nat.beq ret 3 && xend E k 1 (1, e) g S mc ms F
  | .areturn, [(2, e)] => Nat.beq ret 4 && xend E k 1 (2, e) g S mc ms F
  | _, _ => false
theorem xret_s (H : xH r F) {P : ycL → Prop} {E : xEn} {k : xCo} (hE : xEok T r P E) (hk : xKok T r P k) {ins : Instr} {ret : Nat} {st : List xV} {g : xHp} {S : List xFr} {mc ms : Nat} (h : xret E k ins ret st g S mc ms F = true) {mid : Nat} {fr : ycF} {g0 : ycH} (hr : ycrun T 1 mid fr g0 = ycret ins ret (st.map (xdv r)) (xdH T r g)) : yvG T (xdS r S) P mid fr g0 mc ms := by
  unfold xret at h
  split at h
  · rw [Bool.and_eq_true] at h
    refine xend_s H hE hk (Or.inl rfl) h.2 (hr.trans ?_)
    show (bif Nat.beq ret 0 then _ else none) = _
    rw [h.1]; rfl
  · rename_i e
    rw [Bool.and_eq_true] at h
    refine xend_s H hE hk (Or.inr rfl) h.2 (hr.trans ?_)
    show (bif Nat.beq ret 1 || (Nat.beq ret 2 && (decide (xden r e = 0) || decide (xden r e = 1))) then _ else none) = _
    have h1 := h.1
    rw [Bool.or_eq_true, Bool.and_eq_true] at h1
    rcases h1 with h1 | h1
    · rw [h1]; rfl
    · rw [h1.1, xbit_s H h1.2, Bool.and_self, Bool.or_true]; rfl
  · rw [Bool.and_eq_true] at h
    refine xend_s H hE hk (Or.inr rfl) h.2 (hr.trans ?_)
    show (bif Nat.beq ret 3 then _ else none) = _
    rw [h.1]; rfl
  · rw [Bool.and_eq_true] at h
    refine xend_s H hE hk (Or.inr rfl) h.2 (hr.trans ?_)
    show (bif Nat.beq ret 4 then _ else none) = _
    rw [h.1]; rfl
  · cases h
/-- an exception on its way out -/
def xthr (T : ycT) (E : xEn) (k : xCo) (e : Nat) (F : xF) : List xFr → xHp → Nat → Nat → Bool
  | [], g, mc, ms => E F (e + 2) (3, .num 0) g mc ms
  | f :: S2, g, mc, ms => (match ychand (ytNX T f.1) e f.2.1 (ytHD T f.1) with
    | none => false
    | some none => xthr T E k e F S2 (g.1, g.2.1, g.2.2 && f.2.2.2.2.2.1) (f.2.2.2.2.2.2.1 + mc) (f.2.2.2.2.2.2.2 + ms)
    | some (some h) => (match ytP T f.1 h with
      | some (.astore_n i, 1) => Nat.blt i (ytMI T f.1).2.1 && xdr f.2.2.1 i (fun l => xfn (f.2.2.2.2.2.2.1 + mc) (fun mc => xfn (f.2.2.2.2.2.2.2 + ms) (fun ms => k f.1 (h + 1, l, []) (g.1, g.2.1, g.2.2 && f.2.2.2.2.2.1) S2 mc ms F)))
      | some (.astore i, 2) => Nat.blt i (ytMI T f.1).2.1 && xdr f.2.2.1 i (fun l => xfn (f.2.2.2.2.2.2.1 + mc) (fun mc => xfn (f.2.2.2.2.2.2.2 + ms) (fun ms => k f.1 (h + 2, l, []) (g.1, g.2.1, g.2.2 && f.2.2.2.2.2.1) S2 mc ms F)))
      | _ => false))
theorem xthr_s (H : xH r F) {P : ycL → Prop} {E : xEn} {k : xCo} (hE : xEok T r P E) (hk : xKok T r P k) {e : Nat} : ∀ (S : List xFr) (g : xHp) (mc ms : Nat), xthr T E k e F S g mc ms = true → yvS T (xdS r S) P (e + 2, (3, 0), mc, ms, xdH T r g) := by
  intro S
  induction S with
  | nil => intro g mc ms h; exact hE _ _ _ _ _ _ h H
  | cons f S ih =>
    intro g mc ms h
    unfold xthr at h
    split at h
    · cases h
    · rename_i e1
      refine yv_thru (w := (e + 2, (3, 0), mc, ms, xdH T r (g.1, g.2.1, g.2.2 && f.2.2.2.2.2.1))) (fun k => ?_) (ih _ _ _ h)
      show (match ychand (ytNX T f.1) e f.2.1 (ytHD T f.1) with | none => none | some none => _ | some (some h) => _) = _
      rw [e1]; rfl
    · rename_i h9 e1
      split at h
      · rename_i i e2
        simp only [Bool.and_eq_true, xfn_s] at h
        obtain ⟨l2, b1, b2⟩ := xdr_s (r := r) h.2
        obtain ⟨n, w, c1, c2⟩ := hk _ _ _ _ _ _ _ b1 H
        refine ⟨n, ycmore mc ms w, ?_, ?_⟩
        · show (match ychand (ytNX T f.1) e f.2.1 (ytHD T f.1) with | none => none | some none => _ | some (some h) => _) = _
          rw [e1]
          show (match ytP T f.1 h9 with | some (.astore_n i, 1) => _ | some (.astore i, 2) => _ | _ => none) = _
          rw [e2]
          show (bif Nat.blt i (ytMI T f.1).2.1 then ycthen mc ms (ycrun T n f.1 (h9 + 1, ycdrop (xdl r f.2.2.1) i, []) _) else none) = _
          rw [h.1, ← b2]
          have c1 : ycrun T n f.1 (h9 + 1, xdl r l2, []) (xdH T r (g.1, g.2.1, g.2.2 && f.2.2.2.2.2.1)) = some w := c1
          show ycthen mc ms (ycrun T n f.1 (h9 + 1, xdl r l2, []) (xdH T r (g.1, g.2.1, g.2.2 && f.2.2.2.2.2.1))) = _
          rw [c1]; rfl
        · rw [yc_more]
          exact c2
      · rename_i i e2
        simp only [Bool.and_eq_true, xfn_s] at h
        obtain ⟨l2, b1, b2⟩ := xdr_s (r := r) h.2
        obtain ⟨n, w, c1, c2⟩ := hk _ _ _ _ _ _ _ b1 H
        refine ⟨n, ycmore mc ms w, ?_, ?_⟩
        · show (match ychand (ytNX T f.1) e f.2.1 (ytHD T f.1) with | none => none | some none => _ | some (some h) => _) = _
          rw [e1]
          show (match ytP T f.1 h9 with | some (.astore_n i, 1) => _ | some (.astore i, 2) => _ | _ => none) = _
          rw [e2]
          show (bif Nat.blt i (ytMI T f.1).2.1 then ycthen mc ms (ycrun T n f.1 (h9 + 2, ycdrop (xdl r f.2.2.1) i, []) _) else none) = _
          rw [h.1, ← b2]
          have c1 : ycrun T n f.1 (h9 + 2, xdl r l2, []) (xdH T r (g.1, g.2.1, g.2.2 && f.2.2.2.2.2.1)) = some w := c1
          show ycthen mc ms (ycrun T n f.1 (h9 + 2, xdl r l2, []) (xdH T r (g.1, g.2.1, g.2.2 && f.2.2.2.2.2.1))) = _
          rw [c1]; rfl
        · rw [yc_more]
          exact c2
      · cases h
def xthrow (T : ycT) (E : xEn) (k : xCo) (mid i e n : Nat) (fr : xFm) (g : xHp) (S : List xFr) (mc ms : Nat) (F : xF) : Bool :=
  match ytP T mid (fr.1 + 3), ytP T mid (fr.1 + 4), ytP T mid (fr.1 + 7) with
  | some (.dup, 1), some (.invokespecial j, 3), some (.athrow, 1) =>
    ((match ytNI T mid j with | some e2 => Nat.beq e e2 | none => false) && ((ytHD T mid).isEmpty && (Nat.blt (n + 3) (ytRM T mid).1 && Nat.ble (xwide fr.2.2 + (13 * (n + 1) + 42)) (ytRM T mid).2))) && xthr T E k e F S (g.1, g.2.1, false) (mc + 1) (ms + 6)
  | _, _, _ => false
theorem xthrow_s (H : xH r F) {P : ycL → Prop} {E : xEn} {k : xCo} (hE : xEok T r P E) (hk : xKok T r P k) {mid i e n : Nat} {fr : xFm} {g : xHp} {S : List xFr} {mc ms : Nat} (h : xthrow T E k mid i e n fr g S mc ms F = true) (hr : ycrun T 1 mid (xdF r fr) (xdH T r g) = ycthrow T mid i e n (xdF r fr) (xdH T r g)) : yvG T (xdS r S) P mid (xdF r fr) (xdH T r g) mc ms := by
  unfold xthrow at h
  split at h
  · rename_i j e1 e2 e3
    rw [Bool.and_eq_true] at h
    refine ⟨1, (e + 2, (3, 0), 1, 6, xdH T r (g.1, g.2.1, false)), hr.trans ?_, xthr_s H hE hk _ _ _ _ h.2⟩
    unfold ycthrow
    show (match ytP T mid (fr.1 + 3), ytP T mid (fr.1 + 4), ytP T mid (fr.1 + 7) with | some (.dup, 1), some (.invokespecial j, 3), some (.athrow, 1) => _ | _, _, _ => none) = _
    rw [e1, e2, e3]
    show (bif (match ytNI T mid j with | some e2 => Nat.beq e e2 | none => false) && ((ytHD T mid).isEmpty && (Nat.blt (n + 3) (ytRM T mid).1 && Nat.ble (ycwide (fr.2.2.map (xdv r)) + (13 * (n + 1) + 42)) (ytRM T mid).2)) then some (e + 2, (3, 0), 1, 6, ((xdH T r g).1, (xdH T r g).2.1, false)) else none) = _
    rw [xwide_s, h.1]; rfl
  · cases h
end YT7
