noncomputable section YT9
/-! SYMBOLIC RUNS: new cells; the run -/
variable {T : ycT} {r : Nat → Int} {F : xF}
theorem xmk_n {g : xHp} {c n d : Nat} {t : xT xV} {k : xHp → Bool} (h : xmk g c n d t k = true) : n ≤ 2 ^ d := by
  unfold xmk at h
  rw [Bool.and_eq_true, Bool.and_eq_true] at h
  exact Nat.ble_eq.mp h.2.1
def xcv (v : ycV) : xV := (v.1, .num v.2)
theorem xisb_of {d : Nat} {f : Nat → xV} : xisb (xof d f) = true := by cases d <;> rfl
theorem xct_of {d : Nat} {f : Nat → xV} {j : Nat} (h : j < 2 ^ d) (hv : Nat.blt (f j).1 10 = true) : xct r (xof d f) j = xdv r (f j) := by
  rw [xct_b xisb_of, xg0_of d f j h, xsv_n hv]
theorem ycadf_10 (k : Nat) : Nat.blt (ycadf k).1 10 = true := by
  unfold ycadf
  cases Nat.beq k 15 <;> cases Nat.ble 17 k <;> rfl
theorem xct_df (k j : Nat) : xct r (.leaf (xcv (ycadf k))) j = ycadf k := by
  show xdv r (xsv (xcv (ycadf k)) j) = _
  rw [xsv_n (show Nat.blt (xcv (ycadf k)).1 10 = true from ycadf_10 k)]
  rfl
def xnewi (T : ycT) (E : xEn) (k : xCo) (mid i : Nat) (fr : xFm) (g : xHp) (S : List xFr) (mc ms : Nat) (F : xF) : Bool :=
  match ytNX T mid i with
  | some (e, n) => xthrow T E k mid i e n fr g S mc ms F
  | none => (match ytNC T mid i with
    | some (ci, N) => xfn ci (fun ci => xfn N (fun N => (g.2.2 && (List.range N).all (fun j => Nat.blt (ytDF T ci j).1 10)) && (Nat.blt ci 14 && xmk g ci N (Nat.log2 N + 1) (xof (Nat.log2 N + 1) (fun j => xcv (ytDF T ci j))) (fun g2 => xfn (mc + 1) (fun mc => xfn (ms + N) (fun ms => k mid (fr.1 + 3, fr.2.1, (2, .num (g.2.1 : Int)) :: fr.2.2) g2 S mc ms F))))))
    | none => false)
theorem xnewi_s (H : xH r F) {P : ycL → Prop} {E : xEn} {k : xCo} (hE : xEok T r P E) (hk : xKok T r P k) {mid i : Nat} {fr : xFm} {g : xHp} {S : List xFr} {mc ms : Nat} (h : xnewi T E k mid i fr g S mc ms F = true) (hr : ∀ n, ycrun T (n + 1) mid (xdF r fr) (xdH T r g) = ycnewi T (ycrun T n) mid i (xdF r fr) (xdH T r g)) : yvG T (xdS r S) P mid (xdF r fr) (xdH T r g) mc ms := by
  unfold xnewi at h
  unfold ycnewi at hr
  split at h
  · rename_i e n e1
    simp only [e1] at hr
    exact xthrow_s H hE hk h (hr 0)
  · rename_i e1
    simp only [e1] at hr
    split at h
    · rename_i ci N e2
      simp only [e2] at hr
      rw [xfn_s, xfn_s] at h
      rw [Bool.and_eq_true, Bool.and_eq_true (Nat.blt ci 14)] at h
      obtain ⟨h1, h2, h3⟩ := h
      rw [Bool.and_eq_true] at h1
      obtain ⟨h1, h9⟩ := h1
      have h9 := List.all_eq_true.mp h9
      have hn := xmk_n h3
      obtain ⟨g2, b1, b2⟩ := xmk_s (T := T) (r := r) (f := ytDF T ci) h3 (fun j hj => by rw [xct_of (by omega) (h9 j (List.mem_range.mpr hj))]; rfl) (fun j _ => by unfold xdf; rw [h2]; rfl)
      simp only [xfn_s] at b1
      refine yv_on (a := 1) (b := N) (fun n => ?_) (hk _ _ _ _ _ _ _ b1 H)
      rw [hr]
      refine xbt h1 ?_
      rw [b2]; rfl
    · cases h
def xnewa (k : xCo) (mid : Nat) (atype : ArrayType) (fr : xFm) (g : xHp) (S : List xFr) (mc ms : Nat) (F : xF) : Bool :=
  match ycak atype, fr.2.2 with
  | some kind, (0, .num n) :: rest => (g.2.2 && ycln n) && (Nat.ble 14 kind && xmk g kind (y32 n).toNat (Nat.log2 (y32 n).toNat + 1) (.leaf (xcv (ycadf kind))) (fun g2 => xfn (mc + 1) (fun mc => xfn (ms + (y32 n).toNat) (fun ms => k mid (fr.1 + 2, fr.2.1, (2, .num (g.2.1 : Int)) :: rest) g2 S mc ms F))))
  | _, _ => false
theorem xnewa_s (H : xH r F) {P : ycL → Prop} {k : xCo} (hk : xKok T r P k) {mid : Nat} {atype : ArrayType} {fr : xFm} {g : xHp} {S : List xFr} {mc ms : Nat} (h : xnewa k mid atype fr g S mc ms F = true) (hr : ∀ n, ycrun T (n + 1) mid (xdF r fr) (xdH T r g) = ycnewa (ycrun T n) mid atype (xdF r fr) (xdH T r g)) : yvG T (xdS r S) P mid (xdF r fr) (xdH T r g) mc ms := by
  obtain ⟨pc, lv, st⟩ := fr
  unfold xnewa at h
  split at h
  · rename_i kind n rest e1 e2
    have e2 : st = (0, .num n) :: rest := e2
    subst e2
    rw [Bool.and_eq_true, Bool.and_eq_true (Nat.ble 14 kind)] at h
    obtain ⟨h1, h2, h3⟩ := h
    have h2 := Nat.ble_eq.mp h2
    obtain ⟨g2, b1, b2⟩ := xmk_s (T := T) (r := r) (f := fun _ => ycadf kind) h3 (fun j _ => xct_df kind j) (fun j _ => by unfold xdf; rw [ycblf h2]; rfl)
    simp only [xfn_s] at b1
    refine yv_on (a := 1) (b := (y32 n).toNat) (fun m => ?_) (hk _ _ _ _ _ _ _ b1 H)
    rw [hr]
    unfold ycnewa
    show (match ycak atype, (0, n) :: rest.map (xdv r) with | some kind, (0, n) :: rest => _ | _, _ => none) = _
    rw [e1]
    refine xbt h1 ?_
    rw [b2]; rfl
  · cases h
def xanew (T : ycT) (k : xCo) (mid i : Nat) (fr : xFm) (g : xHp) (S : List xFr) (mc ms : Nat) (F : xF) : Bool :=
  match ytNA T mid i, fr.2.2 with
  | some kind, (0, .num n) :: rest => (g.2.2 && (ycln n && (Nat.beq kind 17 || Nat.beq kind 18))) && (Nat.ble 14 kind && xmk g kind (y32 n).toNat (Nat.log2 (y32 n).toNat + 1) (.leaf (xcv (ycadf kind))) (fun g2 => xfn (mc + 1) (fun mc => xfn (ms + (y32 n).toNat) (fun ms => k mid (fr.1 + 3, fr.2.1, (2, .num (g.2.1 : Int)) :: rest) g2 S mc ms F))))
  | _, _ => false
theorem xanew_s (H : xH r F) {P : ycL → Prop} {k : xCo} (hk : xKok T r P k) {mid i : Nat} {fr : xFm} {g : xHp} {S : List xFr} {mc ms : Nat} (h : xanew T k mid i fr g S mc ms F = true) (hr : ∀ n, ycrun T (n + 1) mid (xdF r fr) (xdH T r g) = ycanew T (ycrun T n) mid i (xdF r fr) (xdH T r g)) : yvG T (xdS r S) P mid (xdF r fr) (xdH T r g) mc ms := by
  obtain ⟨pc, lv, st⟩ := fr
  unfold xanew at h
  split at h
  · rename_i kind n rest e1 e2
    have e2 : st = (0, .num n) :: rest := e2
    subst e2
    rw [Bool.and_eq_true, Bool.and_eq_true (Nat.ble 14 kind)] at h
    obtain ⟨h1, h2, h3⟩ := h
    have h2 := Nat.ble_eq.mp h2
    obtain ⟨g2, b1, b2⟩ := xmk_s (T := T) (r := r) (f := fun _ => ycadf kind) h3 (fun j _ => xct_df kind j) (fun j _ => by unfold xdf; rw [ycblf h2]; rfl)
    simp only [xfn_s] at b1
    refine yv_on (a := 1) (b := (y32 n).toNat) (fun m => ?_) (hk _ _ _ _ _ _ _ b1 H)
    rw [hr]
    unfold ycanew
    show (match ytNA T mid i, (0, n) :: rest.map (xdv r) with | some kind, (0, n) :: rest => _ | _, _ => none) = _
    rw [e1]
    refine xbt h1 ?_
    rw [b2]; rfl
  · cases h
def xmks (c n d : Nat) (t : xT xV) : Nat → xHp → (xHp → Bool) → Bool
  | 0, g, k => k g
  | m + 1, g, k => xmk g c n d t (fun g2 => xmks c n d t m g2 k)
def ycmks (x : ycC) : Nat → ycH → ycH
  | 0, g => g
  | m + 1, g => ycmks x m (ycmk g x)
theorem xmks_s {c n d : Nat} {t : xT xV} {f : Nat → ycV} (hf : ∀ j, j < n → xct r t j = f j) (hf2 : ∀ j, n ≤ j → xdf T c j = f j) : ∀ (m : Nat) (g : xHp) (k : xHp → Bool), xmks c n d t m g k = true → ∃ g2, k g2 = true ∧ xdH T r g2 = ycmks (c, n, f) m (xdH T r g) := by
  intro m
  induction m with
  | zero => intro g k h; exact ⟨g, h, rfl⟩
  | succ m ih =>
    intro g k h
    obtain ⟨g2, b1, b2⟩ := xmk_s (T := T) (r := r) (f := f) h hf hf2
    obtain ⟨g3, c1, c2⟩ := ih g2 k b1
    exact ⟨g3, c1, by rw [c2, b2]; rfl⟩
theorem ycmks_e (x : ycC) : ∀ (m : Nat) (h : Nat → ycC) (n : Nat), ycmks x m (h, n, true) = (fun i => if n ≤ i ∧ i < n + m then x else h i, n + m, true) := by
  intro m
  induction m with
  | zero =>
    intro h n
    show (h, n, true) = _
    congr 1
    funext i
    rw [if_neg (by omega)]
  | succ m ih =>
    intro h n
    show ycmks x m (ycup h n x, n + 1, true) = _
    rw [ih]
    show (_, _, _) = (_, _, _)
    congr 1
    · funext i
      by_cases h1 : n + 1 ≤ i ∧ i < n + 1 + m
      · rw [if_pos h1, if_pos (by omega)]
      · rw [if_neg h1]
        by_cases h2 : i = n
        · subst h2
          rw [ycup_eq, if_pos (by omega)]
        · rw [ycup_ne h2, if_neg (by omega)]
    · congr 1
      omega
theorem ycmm_e (g : ycH) (ko ki N K : Nat) : ycmm g ko ki N K = ycmks (ki, K, fun _ => ycadf ki) N (ycmk g (ko, N, fun j => bif Nat.blt j N then (2, ((g.2.1 + 1 + j : Nat) : Int)) else ycadf ko)) := by
  unfold ycmk
  rw [ycmks_e]
  unfold ycmm
  congr 1
  funext i
  by_cases h : i = g.2.1
  · subst h
    rw [if_pos rfl, if_neg (by omega), ycup_eq]
  · rw [if_neg h]
    by_cases h2 : g.2.1 < i ∧ i ≤ g.2.1 + N
    · rw [if_pos h2, if_pos (by omega)]
    · rw [if_neg h2, if_neg (by omega), ycup_ne h]
def xmul2 (T : ycT) (k : xCo) (mid i : Nat) (fr : xFm) (g : xHp) (S : List xFr) (mc ms : Nat) (F : xF) : Bool :=
  match ytNA T mid i, fr.2.2 with
  | some kind, (0, .num w) :: (0, .num n) :: rest => (g.2.2 && (ycln n && (ycln w && (Nat.beq kind 19 || Nat.beq kind 20)))) && ((Nat.ble 14 kind && Nat.ble 14 (kind - 5)) &&
      xmk g kind (y32 n).toNat (Nat.log2 (y32 n).toNat + 1) (xof (Nat.log2 (y32 n).toNat + 1) (fun j => (2, .num ((g.2.1 + 1 + j : Nat) : Int)))) (fun g2 =>
        xmks (kind - 5) (y32 w).toNat (Nat.log2 (y32 w).toNat + 1) (.leaf (xcv (ycadf (kind - 5)))) (y32 n).toNat g2 (fun g3 =>
          xfn (mc + (1 + (y32 n).toNat)) (fun mc => xfn (ms + ((y32 n).toNat + (y32 n).toNat * (y32 w).toNat)) (fun ms => k mid (fr.1 + 4, fr.2.1, (2, .num (g.2.1 : Int)) :: rest) g3 S mc ms F)))))
  | _, _ => false
end YT9
