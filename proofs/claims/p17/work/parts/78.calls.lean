noncomputable section EZ8
variable {Q : ezR → Prop} {T : ycT} {r : ezR} {F : xF}
/-- the greater is no less than either, the smaller no more -/
def ezpm1 (F : xF) (e x : xjE) (s : Bool) (k : xF → Bool) : Bool := match x with
  | .num _ => k F
  | x => ezpt F (bif s then .sub e x else .sub x e) 0 4294967295 k
theorem ezpm1_s (H : ezH Q r F) {e x : xjE} {s : Bool} {k : xF → Bool} (h : ezpm1 F e x s k = true) (h1 : s = true → ezden r x ≤ ezden r e ∧ ezden r e - ezden r x ≤ 4294967295) (h2 : s = false → ezden r e ≤ ezden r x ∧ ezden r x - ezden r e ≤ 4294967295) : ∃ F2, ezH Q r F2 ∧ k F2 = true := by
  unfold ezpm1 at h
  split at h
  · exact ⟨F, H, h⟩
  · cases s with
    | true =>
      have := h1 rfl
      exact ezpt_s H h (by show 0 ≤ ezden r e - ezden r _; omega) (by show ezden r e - ezden r _ ≤ _; omega)
    | false =>
      have := h2 rfl
      exact ezpt_s H h (by show 0 ≤ ezden r _ - ezden r e; omega) (by show ezden r _ - ezden r e ≤ _; omega)
def ezpmx (F : xF) (e x y : xjE) (s : Bool) (k : xF → Bool) : Bool := match e with
  | .pow (.add _ _) _ => ezpm1 F e x s (fun F => ezpm1 F e y s k)
  | _ => k F
theorem ezpmx_s (H : ezH Q r F) {e x y : xjE} {s : Bool} {k : xF → Bool} (h : ezpmx F e x y s k = true) (h1 : s = true → (ezden r x ≤ ezden r e ∧ ezden r e - ezden r x ≤ 4294967295) ∧ (ezden r y ≤ ezden r e ∧ ezden r e - ezden r y ≤ 4294967295)) (h2 : s = false → (ezden r e ≤ ezden r x ∧ ezden r x - ezden r e ≤ 4294967295) ∧ (ezden r e ≤ ezden r y ∧ ezden r y - ezden r e ≤ 4294967295)) : ∃ F2, ezH Q r F2 ∧ k F2 = true := by
  unfold ezpmx at h
  split at h
  · obtain ⟨F2, H2, h3⟩ := ezpm1_s H h (fun z => (h1 z).1) (fun z => (h2 z).1)
    exact ezpm1_s H2 h3 (fun z => (h1 z).2) (fun z => (h2 z).2)
  · exact ⟨F, H, h⟩
theorem ezin32_b (H : ezH Q r F) {a : xjE} (h : ezin32 F a = true) : -2147483648 ≤ ezden r a ∧ ezden r a ≤ 2147483647 := by
  unfold ezin32 xr32 at h
  rw [Bool.and_eq_true, xle_iff, xle_iff] at h
  have := eziv_s H a
  omega
def ezmath (T : ycT) (k : ezCo_) (mid cm kind : Nat) (fr : xFm) (g : ezHp) (S : List xFr) (mc ms : Nat) (F : xF) : Bool := match kind, cm, fr.2.2 with
  | 0, 0, (0, y) :: (0, x) :: rest => (Nat.ble 1 (ytRM T mid).1 && Nat.ble (xwide rest + 13) (ytRM T mid).2) && (ezin32 F x && (ezin32 F y && xfe (ezmaxs F x y) (fun e => ezpmx F e x y true (fun F => k mid (fr.1 + 3, fr.2.1, (0, e) :: rest) g S mc ms F))))
  | 0, 1, (0, y) :: (0, x) :: rest => (Nat.ble 1 (ytRM T mid).1 && Nat.ble (xwide rest + 13) (ytRM T mid).2) && (ezin32 F x && (ezin32 F y && xfe (ezmins F x y) (fun e => ezpmx F e x y false (fun F => k mid (fr.1 + 3, fr.2.1, (0, e) :: rest) g S mc ms F))))
  | 0, 2, (0, x) :: rest => (Nat.ble 1 (ytRM T mid).1 && Nat.ble (xwide rest + 13) (ytRM T mid).2) && (ezin32 F x && xfe (xun 2 x) (fun e => k mid (fr.1 + 3, fr.2.1, (0, e) :: rest) g S mc ms F))
  | _, _, _ => false
theorem ezmath_s (H : ezH Q r F) {P : ycL → Prop} {k : ezCo_} (hk : ezKok T Q r P k) {mid cm kind : Nat} {fr : xFm} {g : ezHp} {S : List xFr} {mc ms : Nat} (h : ezmath T k mid cm kind fr g S mc ms F = true) (hr : ∀ n, ycrun T (n + 1) mid (ezdF r fr) (ezhp T r g) = ycmath T (ycrun T n) mid cm kind (ezdF r fr) (ezhp T r g)) : yvG T (ezdS r S) P mid (ezdF r fr) (ezhp T r g) mc ms := by
  obtain ⟨pc, lv, st⟩ := fr
  unfold ezmath at h
  split at h
  · rename_i y x rest e
    simp only [Bool.and_eq_true, xfe_s] at h
    have e : st = (0, y) :: (0, x) :: rest := e
    subst e
    have bx := ezin32_b H h.2.1
    have by' := ezin32_b H h.2.2.1
    have em : ezden r (ezmaxs F x y) = bif xle (ezden r x) (ezden r y) then ezden r y else ezden r x := ezmaxs_s H x y
    have em2 : (ezden r x ≤ ezden r (ezmaxs F x y) ∧ ezden r (ezmaxs F x y) - ezden r x ≤ 4294967295) ∧ (ezden r y ≤ ezden r (ezmaxs F x y) ∧ ezden r (ezmaxs F x y) - ezden r y ≤ 4294967295) := by
      rw [em]
      cases hx : xle (ezden r x) (ezden r y) with
      | true => rw [xle_iff] at hx; simp only [cond_true]; omega
      | false =>
        have hx : ¬ ezden r x ≤ ezden r y := fun z => by rw [xle_iff.mpr z] at hx; cases hx
        simp only [cond_false]; omega
    obtain ⟨F2, H2, h2⟩ := ezpmx_s H h.2.2.2 (fun _ => em2) (fun z => by cases z)
    refine yv_on0 (fun n => ?_) (hk _ _ _ _ _ _ _ h2 H2)
    rw [hr]
    show (bif Nat.ble 1 (ytRM T mid).1 && Nat.ble (ycwide (rest.map (ezdv r)) + 13) (ytRM T mid).2 then ycrun T n mid (pc + 3, ezdl r lv, (0, bif decide (y32 (ezden r x) < y32 (ezden r y)) then ezden r y else ezden r x) :: rest.map (ezdv r)) (ezhp T r g) else none) = ycrun T n mid (pc + 3, ezdl r lv, (0, ezden r (ezmaxs F x y)) :: rest.map (ezdv r)) (ezhp T r g)
    rw [ezwide_s, h.1.1, h.1.2, ezin32_s H h.2.1, ezin32_s H h.2.2.1, ezmaxs_s H, xmx_e]; rfl
  · rename_i y x rest e
    simp only [Bool.and_eq_true, xfe_s] at h
    have e : st = (0, y) :: (0, x) :: rest := e
    subst e
    have bx := ezin32_b H h.2.1
    have by' := ezin32_b H h.2.2.1
    have em : ezden r (ezmins F x y) = bif xle (ezden r x) (ezden r y) then ezden r x else ezden r y := ezmins_s H x y
    have em2 : (ezden r (ezmins F x y) ≤ ezden r x ∧ ezden r x - ezden r (ezmins F x y) ≤ 4294967295) ∧ (ezden r (ezmins F x y) ≤ ezden r y ∧ ezden r y - ezden r (ezmins F x y) ≤ 4294967295) := by
      rw [em]
      cases hx : xle (ezden r x) (ezden r y) with
      | true => rw [xle_iff] at hx; simp only [cond_true]; omega
      | false =>
        have hx : ¬ ezden r x ≤ ezden r y := fun z => by rw [xle_iff.mpr z] at hx; cases hx
        simp only [cond_false]; omega
    obtain ⟨F2, H2, h2⟩ := ezpmx_s H h.2.2.2 (fun z => by cases z) (fun _ => em2)
    refine yv_on0 (fun n => ?_) (hk _ _ _ _ _ _ _ h2 H2)
    rw [hr]
    show (bif Nat.ble 1 (ytRM T mid).1 && Nat.ble (ycwide (rest.map (ezdv r)) + 13) (ytRM T mid).2 then ycrun T n mid (pc + 3, ezdl r lv, (0, bif decide (y32 (ezden r y) < y32 (ezden r x)) then ezden r y else ezden r x) :: rest.map (ezdv r)) (ezhp T r g) else none) = ycrun T n mid (pc + 3, ezdl r lv, (0, ezden r (ezmins F x y)) :: rest.map (ezdv r)) (ezhp T r g)
    rw [ezwide_s, h.1.1, h.1.2, ezin32_s H h.2.1, ezin32_s H h.2.2.1, ezmins_s H, xmn_e]; rfl
  · rename_i x rest e
    simp only [Bool.and_eq_true, xfe_s] at h
    have e : st = (0, x) :: rest := e
    subst e
    refine yv_on0 (fun n => ?_) (hk _ _ _ _ _ _ _ h.2.2 H)
    rw [hr]
    show (bif Nat.ble 1 (ytRM T mid).1 && Nat.ble (ycwide (rest.map (ezdv r)) + 13) (ytRM T mid).2 then ycrun T n mid (pc + 3, ezdl r lv, (0, bif decide (0 ≤ y32 (ezden r x)) then ezden r x else y32 (0 - ezden r x)) :: rest.map (ezdv r)) (ezhp T r g) else none) = ycrun T n mid (pc + 3, ezdl r lv, (0, ezden r (xun 2 x)) :: rest.map (ezdv r)) (ezhp T r g)
    rw [ezwide_s, h.1.1, h.1.2, ezin32_s H h.2.1, ezun_s, xab_e]; rfl
  · cases h
/-- the receiver -/
def ezrecv (ck : Nat) (F : xF) : List xV → Bool
  | (2, a) :: _ => ezcell F a (fun n => Nat.beq (ezK n) ck)
  | _ => false
def ezrecv2 (F : xF) : List xV → Bool
  | (2, a) :: _ => ezcell F a (fun _ => true)
  | _ => false
theorem ezrecv_s (H : ezH Q r F) {ck : Nat} {g : ezHp} {l : List xV} (h : ezrecv ck F l = true) : ycrecv ck (ezhp T r g) (l.map (ezdv r)) = true := by
  unfold ezrecv at h
  split at h
  · rename_i a t
    obtain ⟨a1, a2, a3⟩ := ezcell_s H h
    show (Nat.blt (ezden r a).toNat 512 && Nat.beq ((ezhp1 T (ezhh r g.1) (r.2.2 && g.2.2)).1 (ezden r a).toNat).1 ck) = true
    rw [ezhp1_at a2, ycblt a2]
    exact a3
  · cases h
theorem ezrecv2_s (H : ezH Q r F) {g : ezHp} {l : List xV} (h : ezrecv2 F l = true) : ycrecv ((ezhp T r g).1 (match l.map (ezdv r) with | (_, a) :: _ => a.toNat | _ => 0)).1 (ezhp T r g) (l.map (ezdv r)) = true := by
  unfold ezrecv2 at h
  split at h
  · rename_i a t
    obtain ⟨a1, a2, a3⟩ := ezcell_s H h
    show (Nat.blt (ezden r a).toNat 512 && Nat.beq ((ezhp T r g).1 (ezden r a).toNat).1 ((ezhp T r g).1 (ezden r a).toNat).1) = true
    rw [ycblt a2, Nat.beq_refl]; rfl
  · cases h
def ezcall (T : ycT) (k : ezCo_) (mid i kind : Nat) (fr : xFm) (g : ezHp) (S : List xFr) (mc ms : Nat) (F : xF) : Bool :=
  match ytMC T mid i with
  | none => false
  | some (cm, mode) => xfn cm (fun cm => xfn mode (fun mode =>
    bif Nat.beq mode 6 then (match kind, fr.2.2 with
      | 2, (2, _) :: rest => (Nat.ble 1 (ytRM T mid).1 && Nat.ble (xwide rest + 12) (ytRM T mid).2) && k mid (fr.1 + 3, fr.2.1, rest) g S mc ms F
      | _, _ => false)
    else bif Nat.beq mode 5 then ezmath T k mid cm kind fr g S mc ms F
    else (Nat.beq (fr.2.2.take (ytMI T cm).1).length (ytMI T cm).1 && (Nat.ble (xwide (fr.2.2.take (ytMI T cm).1).reverse) (ytMI T cm).2.1 && (Nat.ble (xwide (fr.2.2.drop (ytMI T cm).1)) 8 && (Nat.ble ((ytRM T cm).1 + 1) (ytRM T mid).1 && (Nat.ble (8 + ((ytMI T cm).2.1 + 11) + (ytRM T cm).2) (ytRM T mid).2 &&
        (bif Nat.beq kind 0 then Nat.beq mode 0 || Nat.beq mode 3 else bif Nat.beq kind 1 then Nat.beq mode 1 && ezrecv (ytMI T cm).2.2.2.2 F (fr.2.2.take (ytMI T cm).1).reverse else Nat.beq kind 2 && (Nat.beq mode 2 || Nat.beq mode 4) && ezrecv2 F (fr.2.2.take (ytMI T cm).1).reverse)))))) &&
      xfn (ytMI T cm).2.2.1 (fun rt => k cm (0, xargs 0 (fr.2.2.take (ytMI T cm).1).reverse, []) g ((mid, fr.1, fr.2.1, fr.2.2.drop (ytMI T cm).1, rt, g.2.2, mc, ms) :: S) 0 0 F)))
theorem ezcall_s (H : ezH Q r F) {P : ycL → Prop} {k : ezCo_} (hk : ezKok T Q r P k) {mid i kind : Nat} {fr : xFm} {g : ezHp} {S : List xFr} {mc ms : Nat} (h : ezcall T k mid i kind fr g S mc ms F = true) (hr : ∀ n, ycrun T (n + 1) mid (ezdF r fr) (ezhp T r g) = yccall T (ycrun T n) mid i kind (ezdF r fr) (ezhp T r g)) : yvG T (ezdS r S) P mid (ezdF r fr) (ezhp T r g) mc ms := by
  unfold ezcall at h
  split at h
  · cases h
  · rename_i cm mode e
    rw [xfn_s, xfn_s] at h
    have hu : ∀ n, ycrun T (n + 1) mid (ezdF r fr) (ezhp T r g) = (match ytMC T mid i with | none => none | some (cm, mode) => _) := fun n => hr n
    unfold yccall at hr
    simp only [e] at hr
    cases h6 : Nat.beq mode 6 with
    | true =>
      rw [h6] at h
      simp only [h6, cond_true] at h hr
      obtain ⟨pc, lv, st⟩ := fr
      split at h
      · rename_i q rest e2
        rw [Bool.and_eq_true] at h
        have e2 : st = (2, q) :: rest := e2
        subst e2
        refine yv_on0 (fun n => ?_) (hk _ _ _ _ _ _ _ h.2 H)
        rw [hr]
        show (bif Nat.ble 1 (ytRM T mid).1 && Nat.ble (ycwide (rest.map (ezdv r)) + 12) (ytRM T mid).2 then _ else none) = _
        rw [ezwide_s, h.1]; rfl
      · cases h
    | false =>
      rw [h6] at h
      simp only [h6, cond_false] at h hr
      cases h5 : Nat.beq mode 5 with
      | true =>
        rw [h5] at h
        simp only [h5, cond_true] at h hr
        exact ezmath_s H hk h hr
      | false =>
        rw [h5] at h
        simp only [h5, cond_false] at h hr
        rw [Bool.and_eq_true] at h
        have hc := h.1
        have eT : ((ezdF r fr).2.2.take (ytMI T cm).1) = (fr.2.2.take (ytMI T cm).1).map (ezdv r) := List.map_take.symm
        have eD : ((ezdF r fr).2.2.drop (ytMI T cm).1) = (fr.2.2.drop (ytMI T cm).1).map (ezdv r) := List.map_drop.symm
        have eR : ((ezdF r fr).2.2.take (ytMI T cm).1).reverse = ((fr.2.2.take (ytMI T cm).1).reverse).map (ezdv r) := by rw [eT, List.map_reverse]
        simp only [eR, eD] at hr
        simp only [eT, List.length_map, ezwide_s] at hr
        simp only [Bool.and_eq_true] at hc
        obtain ⟨c1, c2, c3, c4, c5, c6⟩ := hc
        have c6' : (bif Nat.beq kind 0 then Nat.beq mode 0 || Nat.beq mode 3 else bif Nat.beq kind 1 then Nat.beq mode 1 && ycrecv (ytMI T cm).2.2.2.2 (ezhp T r g) ((fr.2.2.take (ytMI T cm).1).reverse.map (ezdv r)) else Nat.beq kind 2 && (Nat.beq mode 2 || Nat.beq mode 4) && ycrecv ((ezhp T r g).1 (match (fr.2.2.take (ytMI T cm).1).reverse.map (ezdv r) with | (_, a) :: _ => a.toNat | _ => 0)).1 (ezhp T r g) ((fr.2.2.take (ytMI T cm).1).reverse.map (ezdv r))) = true := by
          cases k0 : Nat.beq kind 0 with
          | true => rw [k0] at c6; exact c6
          | false =>
            rw [k0] at c6
            simp only [cond_false] at c6 ⊢
            cases k1 : Nat.beq kind 1 with
            | true =>
              rw [k1] at c6
              simp only [cond_true, Bool.and_eq_true] at c6 ⊢
              exact ⟨c6.1, ezrecv_s H c6.2⟩
            | false =>
              rw [k1] at c6
              simp only [cond_false] at c6 ⊢
              rw [Bool.and_eq_true] at c6 ⊢
              exact ⟨c6.1, ezrecv2_s H c6.2⟩
        simp only [c1, c2, c3, c4, c5, c6', Bool.and_self, cond_true] at hr
        refine yv_call (pc := fr.1) (lv := ezdl r fr.2.1) (rest := (fr.2.2.drop (ytMI T cm).1).map (ezdv r)) (ret := (ytMI T cm).2.2.1) (known := (r.2.2 && g.2.2)) (fr2 := (0, ycargs 0 ((fr.2.2.take (ytMI T cm).1).reverse.map (ezdv r)), [])) (cm := cm) (fun n => ?_) ?_
        · rw [hr]
          exact xbt c6' rfl
        · have h2 := h.2
          rw [xfn_s] at h2
          have := hk _ _ _ _ _ _ _ h2 H
          rw [← ezargs_s]
          exact this
end EZ8
