noncomputable section YT8
/-! SYMBOLIC RUNS: calls and new cells; the run -/
variable {T : ycT} {r : Nat → Int} {F : xF}
def xmath (T : ycT) (k : xCo) (mid cm kind : Nat) (fr : xFm) (g : xHp) (S : List xFr) (mc ms : Nat) (F : xF) : Bool := match kind, cm, fr.2.2 with
  | 0, 0, (0, y) :: (0, x) :: rest => (Nat.ble 1 (ytRM T mid).1 && Nat.ble (xwide rest + 13) (ytRM T mid).2) && (xin32 F x && (xin32 F y && xfe (xmaxs F x y) (fun e => k mid (fr.1 + 3, fr.2.1, (0, e) :: rest) g S mc ms F)))
  | 0, 1, (0, y) :: (0, x) :: rest => (Nat.ble 1 (ytRM T mid).1 && Nat.ble (xwide rest + 13) (ytRM T mid).2) && (xin32 F x && (xin32 F y && xfe (xmins F x y) (fun e => k mid (fr.1 + 3, fr.2.1, (0, e) :: rest) g S mc ms F)))
  | 0, 2, (0, x) :: rest => (Nat.ble 1 (ytRM T mid).1 && Nat.ble (xwide rest + 13) (ytRM T mid).2) && (xin32 F x && xfe (xun 2 x) (fun e => k mid (fr.1 + 3, fr.2.1, (0, e) :: rest) g S mc ms F))
  | _, _, _ => false
theorem xmx_e (x y : Int) : xop 80 x y = bif decide (x < y) then y else x := by
  show (bif xle x y then y else x) = _
  by_cases h : x < y
  · rw [decide_eq_true h, xle_iff.mpr (by omega)]
  · rw [decide_eq_false h]
    by_cases e : x = y
    · subst e; cases xle x x <;> rfl
    · have : xle x y = false := by
        cases hx : xle x y with
        | false => rfl
        | true => rw [xle_iff] at hx; omega
      rw [this]
theorem xmn_e (x y : Int) : xop 96 x y = bif decide (y < x) then y else x := by
  show (bif xle x y then x else y) = _
  by_cases h : y < x
  · have : xle x y = false := by
      cases hx : xle x y with
      | false => rfl
      | true => rw [xle_iff] at hx; omega
    rw [decide_eq_true h, this]; rfl
  · rw [decide_eq_false h, xle_iff.mpr (by omega)]; rfl
theorem xab_e (x : Int) : xop1 2 x = bif decide (0 ≤ x) then x else y32 (0 - x) := by
  show (bif xle 0 x then x else xw (0 - x)) = _
  by_cases h : 0 ≤ x
  · rw [decide_eq_true h, xle_iff.mpr h]; rfl
  · have : xle 0 x = false := by
      cases hx : xle 0 x with
      | false => rfl
      | true => rw [xle_iff] at hx; omega
    rw [decide_eq_false h, this, xw_s]
theorem xmath_s (H : xH r F) {P : ycL → Prop} {k : xCo} (hk : xKok T r P k) {mid cm kind : Nat} {fr : xFm} {g : xHp} {S : List xFr} {mc ms : Nat} (h : xmath T k mid cm kind fr g S mc ms F = true) (hr : ∀ n, ycrun T (n + 1) mid (xdF r fr) (xdH T r g) = ycmath T (ycrun T n) mid cm kind (xdF r fr) (xdH T r g)) : yvG T (xdS r S) P mid (xdF r fr) (xdH T r g) mc ms := by
  obtain ⟨pc, lv, st⟩ := fr
  unfold xmath at h
  split at h
  · rename_i y x rest e
    simp only [Bool.and_eq_true, xfe_s] at h
    have e : st = (0, y) :: (0, x) :: rest := e
    subst e
    refine yv_on0 (fun n => ?_) (hk _ _ _ _ _ _ _ h.2.2.2 H)
    rw [hr]
    show (bif Nat.ble 1 (ytRM T mid).1 && Nat.ble (ycwide (rest.map (xdv r)) + 13) (ytRM T mid).2 then ycrun T n mid (pc + 3, xdl r lv, (0, bif decide (y32 (xden r x) < y32 (xden r y)) then xden r y else xden r x) :: rest.map (xdv r)) (xdH T r g) else none) = ycrun T n mid (pc + 3, xdl r lv, (0, xden r (xmaxs F x y)) :: rest.map (xdv r)) (xdH T r g)
    rw [xwide_s, h.1.1, h.1.2, xin32_s H h.2.1, xin32_s H h.2.2.1, xmaxs_s H, xmx_e]; rfl
  · rename_i y x rest e
    simp only [Bool.and_eq_true, xfe_s] at h
    have e : st = (0, y) :: (0, x) :: rest := e
    subst e
    refine yv_on0 (fun n => ?_) (hk _ _ _ _ _ _ _ h.2.2.2 H)
    rw [hr]
    show (bif Nat.ble 1 (ytRM T mid).1 && Nat.ble (ycwide (rest.map (xdv r)) + 13) (ytRM T mid).2 then ycrun T n mid (pc + 3, xdl r lv, (0, bif decide (y32 (xden r y) < y32 (xden r x)) then xden r y else xden r x) :: rest.map (xdv r)) (xdH T r g) else none) = ycrun T n mid (pc + 3, xdl r lv, (0, xden r (xmins F x y)) :: rest.map (xdv r)) (xdH T r g)
    rw [xwide_s, h.1.1, h.1.2, xin32_s H h.2.1, xin32_s H h.2.2.1, xmins_s H, xmn_e]; rfl
  · rename_i x rest e
    simp only [Bool.and_eq_true, xfe_s] at h
    have e : st = (0, x) :: rest := e
    subst e
    refine yv_on0 (fun n => ?_) (hk _ _ _ _ _ _ _ h.2.2 H)
    rw [hr]
    show (bif Nat.ble 1 (ytRM T mid).1 && Nat.ble (ycwide (rest.map (xdv r)) + 13) (ytRM T mid).2 then ycrun T n mid (pc + 3, xdl r lv, (0, bif decide (0 ≤ y32 (xden r x)) then xden r x else y32 (0 - xden r x)) :: rest.map (xdv r)) (xdH T r g) else none) = ycrun T n mid (pc + 3, xdl r lv, (0, xden r (xun 2 x)) :: rest.map (xdv r)) (xdH T r g)
    rw [xwide_s, h.1.1, h.1.2, xin32_s H h.2.1, xun_s, xab_e]; rfl
  · cases h
/-- the receiver -/
def xrecv (ck : Nat) (g : xHp) : List xV → Bool
  | (2, .num a) :: _ => Nat.blt a.toNat g.2.1 && Nat.beq (xg0 g.1 a.toNat).1 ck
  | _ => false
def xrecv2 (g : xHp) : List xV → Bool
  | (2, .num a) :: _ => Nat.blt a.toNat g.2.1
  | _ => false
theorem xrecv_s {ck : Nat} {g : xHp} {l : List xV} (h : xrecv ck g l = true) : ycrecv ck (xdH T r g) (l.map (xdv r)) = true := by
  unfold xrecv at h
  split at h
  · rename_i a t
    rw [Bool.and_eq_true] at h
    show (Nat.blt a.toNat g.2.1 && Nat.beq ((xdH T r g).1 a.toNat).1 ck) = true
    rw [xdH_at h.1, h.1]
    exact h.2
  · cases h
theorem xrecv2_s {g : xHp} {l : List xV} (h : xrecv2 g l = true) : ycrecv ((xdH T r g).1 (match l.map (xdv r) with | (_, a) :: _ => a.toNat | _ => 0)).1 (xdH T r g) (l.map (xdv r)) = true := by
  unfold xrecv2 at h
  split at h
  · rename_i a t
    show (Nat.blt a.toNat g.2.1 && Nat.beq ((xdH T r g).1 a.toNat).1 ((xdH T r g).1 a.toNat).1) = true
    rw [h, Nat.beq_refl]; rfl
  · cases h
def xcall (T : ycT) (k : xCo) (mid i kind : Nat) (fr : xFm) (g : xHp) (S : List xFr) (mc ms : Nat) (F : xF) : Bool :=
  match ytMC T mid i with
  | none => false
  | some (cm, mode) => xfn cm (fun cm => xfn mode (fun mode =>
    bif Nat.beq mode 6 then (match kind, fr.2.2 with
      | 2, (2, _) :: rest => (Nat.ble 1 (ytRM T mid).1 && Nat.ble (xwide rest + 12) (ytRM T mid).2) && k mid (fr.1 + 3, fr.2.1, rest) g S mc ms F
      | _, _ => false)
    else bif Nat.beq mode 5 then xmath T k mid cm kind fr g S mc ms F
    else (Nat.beq (fr.2.2.take (ytMI T cm).1).length (ytMI T cm).1 && (Nat.ble (xwide (fr.2.2.take (ytMI T cm).1).reverse) (ytMI T cm).2.1 && (Nat.ble (xwide (fr.2.2.drop (ytMI T cm).1)) 8 && (Nat.ble ((ytRM T cm).1 + 1) (ytRM T mid).1 && (Nat.ble (8 + ((ytMI T cm).2.1 + 11) + (ytRM T cm).2) (ytRM T mid).2 &&
        (bif Nat.beq kind 0 then Nat.beq mode 0 || Nat.beq mode 3 else bif Nat.beq kind 1 then Nat.beq mode 1 && xrecv (ytMI T cm).2.2.2.2 g (fr.2.2.take (ytMI T cm).1).reverse else Nat.beq kind 2 && (Nat.beq mode 2 || Nat.beq mode 4) && xrecv2 g (fr.2.2.take (ytMI T cm).1).reverse)))))) &&
      xfn (ytMI T cm).2.2.1 (fun rt => k cm (0, xargs 0 (fr.2.2.take (ytMI T cm).1).reverse, []) g ((mid, fr.1, fr.2.1, fr.2.2.drop (ytMI T cm).1, rt, g.2.2, mc, ms) :: S) 0 0 F)))
theorem xbt {α : Type} {b : Bool} {x y : Option α} (h : b = true) (e : x = y) : (bif b then x else none) = y := by subst h; exact e
theorem xcall_s (H : xH r F) {P : ycL → Prop} {k : xCo} (hk : xKok T r P k) {mid i kind : Nat} {fr : xFm} {g : xHp} {S : List xFr} {mc ms : Nat} (h : xcall T k mid i kind fr g S mc ms F = true) (hr : ∀ n, ycrun T (n + 1) mid (xdF r fr) (xdH T r g) = yccall T (ycrun T n) mid i kind (xdF r fr) (xdH T r g)) : yvG T (xdS r S) P mid (xdF r fr) (xdH T r g) mc ms := by
  unfold xcall at h
  split at h
  · cases h
  · rename_i cm mode e
    rw [xfn_s, xfn_s] at h
    have hu : ∀ n, ycrun T (n + 1) mid (xdF r fr) (xdH T r g) = (match ytMC T mid i with | none => none | some (cm, mode) => _) := fun n => hr n
    unfold yccall at hr
    simp only [e] at hr
    cases h6 : Nat.beq mode 6 with
    | true =>
      rw [h6] at h
      simp only [h6, cond_true] at h hr
      obtain ⟨pc, lv, st⟩ := fr
      split at h
      · rename_i q rest e2
        rw [Bool.and_eq_true] at h
        have e2 : st = (2, q) :: rest := e2
        subst e2
        refine yv_on0 (fun n => ?_) (hk _ _ _ _ _ _ _ h.2 H)
        rw [hr]
        show (bif Nat.ble 1 (ytRM T mid).1 && Nat.ble (ycwide (rest.map (xdv r)) + 12) (ytRM T mid).2 then _ else none) = _
        rw [xwide_s, h.1]; rfl
      · cases h
    | false =>
      rw [h6] at h
      simp only [h6, cond_false] at h hr
      cases h5 : Nat.beq mode 5 with
      | true =>
        rw [h5] at h
        simp only [h5, cond_true] at h hr
        exact xmath_s H hk h hr
      | false =>
        rw [h5] at h
        simp only [h5, cond_false] at h hr
        rw [Bool.and_eq_true] at h
        have hc := h.1
        have eT : ((xdF r fr).2.2.take (ytMI T cm).1) = (fr.2.2.take (ytMI T cm).1).map (xdv r) := List.map_take.symm
        have eD : ((xdF r fr).2.2.drop (ytMI T cm).1) = (fr.2.2.drop (ytMI T cm).1).map (xdv r) := List.map_drop.symm
        have eR : ((xdF r fr).2.2.take (ytMI T cm).1).reverse = ((fr.2.2.take (ytMI T cm).1).reverse).map (xdv r) := by rw [eT, List.map_reverse]
        simp only [eR, eD] at hr
        simp only [eT, List.length_map, xwide_s] at hr
        simp only [Bool.and_eq_true] at hc
        obtain ⟨c1, c2, c3, c4, c5, c6⟩ := hc
        have c6' : (bif Nat.beq kind 0 then Nat.beq mode 0 || Nat.beq mode 3 else bif Nat.beq kind 1 then Nat.beq mode 1 && ycrecv (ytMI T cm).2.2.2.2 (xdH T r g) ((fr.2.2.take (ytMI T cm).1).reverse.map (xdv r)) else Nat.beq kind 2 && (Nat.beq mode 2 || Nat.beq mode 4) && ycrecv ((xdH T r g).1 (match (fr.2.2.take (ytMI T cm).1).reverse.map (xdv r) with | (_, a) :: _ => a.toNat | _ => 0)).1 (xdH T r g) ((fr.2.2.take (ytMI T cm).1).reverse.map (xdv r))) = true := by
          cases k0 : Nat.beq kind 0 with
          | true => rw [k0] at c6; exact c6
          | false =>
            rw [k0] at c6
            simp only [cond_false] at c6 ⊢
            cases k1 : Nat.beq kind 1 with
            | true =>
              rw [k1] at c6
              simp only [cond_true, Bool.and_eq_true] at c6 ⊢
              exact ⟨c6.1, xrecv_s c6.2⟩
            | false =>
              rw [k1] at c6
              simp only [cond_false] at c6 ⊢
              rw [Bool.and_eq_true] at c6 ⊢
              exact ⟨c6.1, xrecv2_s c6.2⟩
        simp only [c1, c2, c3, c4, c5, c6', Bool.and_self, cond_true] at hr
        refine yv_call (pc := fr.1) (lv := xdl r fr.2.1) (rest := (fr.2.2.drop (ytMI T cm).1).map (xdv r)) (ret := (ytMI T cm).2.2.1) (known := g.2.2) (fr2 := (0, ycargs 0 ((fr.2.2.take (ytMI T cm).1).reverse.map (xdv r)), [])) (cm := cm) (fun n => ?_) ?_
        · rw [hr]
          exact xbt c6' rfl
        · have h2 := h.2
          rw [xfn_s] at h2
          have := hk _ _ _ _ _ _ _ h2 H
          rw [← xargs_s]
          exact this
end YT8
