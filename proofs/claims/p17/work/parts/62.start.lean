noncomputable section YTC
/-! SYMBOLIC RUNS of this claim: tables, unknowns, the start -/
def yxol : xO := fun k => match k with
  | 0 => (.var 0, fun j => .var (64 * j + 64))
  | 1 => (.num 29, fun j => .num ((ykl1[j]?).getD 0))
  | 2 => (.num 29, fun j => .num ((ykl2[j]?).getD 0))
  | 3 => (.num 30, fun j => .num ((ykl3[j]?).getD 0))
  | 4 => (.num 30, fun j => .num ((ykl4[j]?).getD 0))
  | 5 => (.num 19, fun j => .num ((ykl5[j]?).getD 0))
  | _ => (.num 0, fun _ => .num 0)
/-- the unknowns: 0 the script's length, 64, 128 .. its ints -/
def yxr (L : Nat) (xs : Nat → Int32) : Nat → Int := fun i => bif Nat.beq i 0 then (L : Int) else bif Nat.beq (i % 64) 0 then (xs (i / 64 - 1)).toInt else (xvr i).1
theorem xcd {c : Bool} {a b : Int × Int} {P : Int × Int → Prop} (ha : P a) (hb : P b) : P (cond c a b) := by
  cases c
  · exact hb
  · exact ha
theorem xvr_ne (i : Nat) : (xvr i).1 ≤ (xvr i).2 := by
  unfold xvr xvt
  repeat' first
    | decide
    | refine xcd (P := fun p : Int × Int => p.1 ≤ p.2) ?_ ?_
theorem yx_rok {L : Nat} {xs : Nat → Int32} (hL : L ≤ 3584) : xrok (yxr L xs) := by
  intro i
  unfold yxr
  cases h0 : Nat.beq i 0 with
  | true =>
    have e := Nat.eq_of_beq_eq_true h0
    subst e
    show (-2147483648 : Int) ≤ (L : Int) ∧ (L : Int) ≤ 2147483647
    omega
  | false =>
    simp only [cond_false]
    cases h1 : Nat.beq (i % 64) 0 with
    | true =>
      have e : xvr i = xdef32 := by
        unfold xvr
        rw [h1]; rfl
      rw [e]
      exact xt_32 _
    | false => exact ⟨Int.le_refl _, xvr_ne i⟩
theorem yx_ol {L : Nat} {xs : Nat → Int32} : xolok (yxr L xs) (ykold L xs) yxol := by
  intro k
  match k with
  | 0 =>
    refine ⟨rfl, fun j _ => ?_⟩
    show (bif Nat.beq (64 * j + 64) 0 then (L : Int) else bif Nat.beq ((64 * j + 64) % 64) 0 then (xs ((64 * j + 64) / 64 - 1)).toInt else (xvr (64 * j + 64)).1) = (xs j).toInt
    rw [ycbne (show 64 * j + 64 ≠ 0 by omega), show (64 * j + 64) % 64 = 0 by omega, show (64 * j + 64) / 64 - 1 = j by omega]
    rfl
  | 1 => exact ⟨rfl, fun j _ => rfl⟩
  | 2 => exact ⟨rfl, fun j _ => rfl⟩
  | 3 => exact ⟨rfl, fun j _ => rfl⟩
  | 4 => exact ⟨rfl, fun j _ => rfl⟩
  | 5 => exact ⟨rfl, fun j _ => rfl⟩
  | k + 6 => exact ⟨rfl, fun j _ => rfl⟩
def yxT : ycT := yfT (fun _ => (0, fun _ => 0))
def yxg0 : xHp := (.leaf (0, 0, 0, .leaf (0, .num 0)), 0, true)
variable {T T2 : ycT}
theorem xthr_c (h1 : ytNX T = ytNX T2) (h2 : ytHD T = ytHD T2) (h3 : ytP T = ytP T2) (h4 : ytMI T = ytMI T2) {E : xEn} {k : xCo} {e : Nat} {F : xF} : ∀ (S : List xFr) (g : xHp) (mc ms : Nat), xthr T E k e F S g mc ms = xthr T2 E k e F S g mc ms := by
  intro S
  induction S with
  | nil => intro g mc ms; rfl
  | cons f S ih =>
    intro g mc ms
    unfold xthr
    simp only [h1, h2, h3, h4, ih]
theorem xthrow_c (h1 : ytNX T = ytNX T2) (h2 : ytHD T = ytHD T2) (h3 : ytP T = ytP T2) (h4 : ytMI T = ytMI T2) (h5 : ytNI T = ytNI T2) (h6 : ytRM T = ytRM T2) : xthrow T = xthrow T2 := by
  funext E k mid i e n fr g S mc ms F
  unfold xthrow
  simp only [xthr_c h1 h2 h3 h4, h2, h3, h5, h6]
theorem xmath_c (h6 : ytRM T = ytRM T2) : xmath T = xmath T2 := by
  funext k mid cm kind fr g S mc ms F
  unfold xmath
  simp only [h6]
theorem xcall_c (h4 : ytMI T = ytMI T2) (h6 : ytRM T = ytRM T2) (h7 : ytMC T = ytMC T2) : xcall T = xcall T2 := by
  funext k mid i kind fr g S mc ms F
  unfold xcall
  simp only [xmath_c h6, h4, h6, h7]
theorem xnewi_c (h1 : ytNX T = ytNX T2) (h8 : xthrow T = xthrow T2) (h9 : ytNC T = ytNC T2) (h10 : ytDF T = ytDF T2) : xnewi T = xnewi T2 := by
  funext E k mid i fr g S mc ms F
  unfold xnewi
  simp only [h1, h8, h9, h10]
theorem xanew_c (h11 : ytNA T = ytNA T2) : xanew T = xanew T2 := by
  funext k mid i fr g S mc ms F
  unfold xanew
  simp only [h11]
theorem xmul2_c (h11 : ytNA T = ytNA T2) : xmul2 T = xmul2 T2 := by
  funext k mid i fr g S mc ms F
  unfold xmul2
  simp only [h11]
theorem xcomp_c (h3 : ytP T = ytP T2) (h4 : ytMI T = ytMI T2) (hc : xcall T = xcall T2) (hn : xnewi T = xnewi T2) (ha : xanew T = xanew T2) (hm : xmul2 T = xmul2 T2) (hf : ytFD T = ytFD T2) (hkc : ytKC T = ytKC T2) (hkl : ytKL T = ytKL T2) (hs : ytST T = ytST T2) : xcomp T = xcomp T2 := by
  funext ol mid pc
  unfold xcomp
  simp only [h3, h4, hc, hn, ha, hm, hf, hkc, hkl, hs]
theorem yx_comp (old : Nat → Nat × (Nat → Int)) : xcomp (yfT old) = xcomp yxT :=
  xcomp_c rfl rfl (xcall_c rfl rfl rfl) (xnewi_c rfl (xthrow_c rfl rfl rfl rfl rfl rfl) rfl rfl) (xanew_c rfl) (xmul2_c rfl) rfl rfl rfl rfl
theorem yx_run (old : Nat → Nat × (Nat → Int)) (ol : xO) (E : xEn) (cut : Nat → Nat → Bool) (C : xCo) : ∀ n, xrun (yfT old) ol E cut C n = xrun yxT ol E cut C n := by
  intro n
  induction n with
  | zero => rfl
  | succ n ih =>
    funext mid fr g S mc ms F
    show xfn mid (fun mid => xfn fr.1 (fun pc => (xcomp (yfT old) ol mid pc).1 E (fun mid fr g S mc ms F => (cut mid fr.1 && C mid fr g S mc ms F) || xrun (yfT old) ol E cut C n mid fr g S mc ms F) fr.2.1 fr.2.2 g S mc ms F)) = xfn mid (fun mid => xfn fr.1 (fun pc => (xcomp yxT ol mid pc).1 E (fun mid fr g S mc ms F => (cut mid fr.1 && C mid fr g S mc ms F) || xrun yxT ol E cut C n mid fr g S mc ms F) fr.2.1 fr.2.2 g S mc ms F))
    simp only [ih, yx_comp]
end YTC
