noncomputable section YTF
/-! SYMBOLIC RUNS of this claim: what is to be shown of a state; splitting, loops -/
variable {L : Nat} {xs : Nat → Int32} {r : Nat → Int} {F : xF}
/-- how it is to end -/
def yzP : ycL → Prop := fun u => u.1 = 1 ∧ u.2.1 = (0, 1) ∧ u.2.2.1 ≤ 600002 ∧ u.2.2.2.1 ≤ 7302232
def yzE : xEn := fun F sort v _ mc ms => xctra F || ((Nat.beq sort 1 && (Nat.beq v.1 0 && (xle 1 (xiv F v.2).1 && xle (xiv F v.2).2 1))) && (Nat.ble mc 600002 && Nat.ble ms 7302232))
theorem yz_E {T : ycT} : xEok T r yzP yzE := by
  intro F sort v g mc ms h H
  unfold yzE at h
  rw [xctra_s H, Bool.false_or] at h
  simp only [Bool.and_eq_true, xle_iff] at h
  obtain ⟨⟨h1, h2, h3, h4⟩, h5, h6⟩ := h
  have hv := xiv_s H v.2
  refine ⟨Nat.eq_of_beq_eq_true h1, ?_, Nat.ble_eq.mp h5, Nat.ble_eq.mp h6⟩
  show (v.1, xden r v.2) = (0, 1)
  rw [Nat.eq_of_beq_eq_true h2, show xden r v.2 = 1 by omega]
/-- the script's unknowns are the script's -/
def yzr (L : Nat) (xs : Nat → Int32) (r : Nat → Int) : Prop := ∀ i, i < xPB → r i = yxr L xs i
theorem yz_ol (hL : L ≤ 3584) (h : yzr L xs r) : xolok r (ykold L xs) yxol := by
  have a := yx_ol (L := L) (xs := xs)
  intro k
  obtain ⟨a1, a2⟩ := a k
  match k with
  | 0 =>
    refine ⟨?_, fun j hj => ?_⟩
    · rw [← a1]
      exact h 0 (by decide)
    · rw [← a2 j hj]
      have hj : j < L := hj
      have e : xPB = 1048576 := rfl
      exact h (64 * j + 64) (by omega)
  | 1 => exact ⟨a1, a2⟩
  | 2 => exact ⟨a1, a2⟩
  | 3 => exact ⟨a1, a2⟩
  | 4 => exact ⟨a1, a2⟩
  | 5 => exact ⟨a1, a2⟩
  | k + 6 => exact ⟨a1, a2⟩
/-- from this state, if this is known, it ends as it is to -/
def yzG (L : Nat) (xs : Nat → Int32) (s : xSt) (F : xF) : Prop := ∀ r, yzr L xs r → xH r F → xGl (yfT (ykold L xs)) r yzP s
def yzrun (cut : Nat → Nat → Bool) (C : xCo) (n : Nat) (s : xSt) (F : xF) : Bool := xrun yxT yxol yzE cut C n s.1 s.2.1 s.2.2.1 s.2.2.2.1 s.2.2.2.2.1 s.2.2.2.2.2 F
theorem yz_run (hL : L ≤ 3584) {cut : Nat → Nat → Bool} {C : xCo} {n : Nat} {s : xSt} (h : yzrun cut C n s F = true) (hr : yzr L xs r) (H : xH r F) (hC : xKok (yfT (ykold L xs)) r yzP C) : xGl (yfT (ykold L xs)) r yzP s := by
  unfold yzrun at h
  rw [← yx_run (ykold L xs)] at h
  exact xrun_s (yz_ol hL hr) yz_E hC n _ _ _ _ _ _ _ h H
theorem yz_no {T : ycT} {P : ycL → Prop} : xKok T r P (fun _ _ _ _ _ _ _ => false) := fun _ _ _ _ _ _ _ h _ => by cases h
theorem yz_end (hL : L ≤ 3584) {n : Nat} {s : xSt} (h : yzrun (fun _ _ => false) (fun _ _ _ _ _ _ _ => false) n s F = true) : yzG L xs s F := fun _ hr H => yz_run hL h hr H yz_no
theorem yz_c {cs : List xCd} (hc : ∀ c ∈ cs, yzG L xs c.1 c.2.2.2.1) (hr : yzr L xs r) : xKok (yfT (ykold L xs)) r yzP (xcut cs) := xcut_s fun c hm r2 H2 hR => hc c hm r2 (fun i hi => by rw [hR.2.2.2 i hi]; exact hr i hi) H2
/-- on to other places -/
theorem yz_to (hL : L ≤ 3584) {cut : Nat → Nat → Bool} {cs : List xCd} {n : Nat} {s : xSt} (h : yzrun cut (xcut cs) n s F = true) (hc : ∀ c ∈ cs, yzG L xs c.1 c.2.2.2.1) : yzG L xs s F := fun _ hr H => yz_run hL h hr H (yz_c hc hr)
theorem yz_goes (hL : L ≤ 3584) {n : Nat} {s t : xSt} (h : xgoes yxT yxol [] n s t = true) (ht : yzG L xs t F) : yzG L xs s F := by
  intro r hr H
  unfold xgoes at h
  rw [← yx_run (ykold L xs)] at h
  exact xrun_s (yz_ol hL hr) (fun _ _ _ _ _ _ h _ => by cases h) (xat_s (ht r hr H)) n _ _ _ _ _ _ _ h ⟨H.1, fun q hq => by cases hq⟩
theorem yz_split {s : xSt} (e : xjE) (lo m hi : Int) (h0 : (xle lo (xiv F e).1 && xle (xiv F e).2 hi) = true) (h1 : yzG L xs s ((e, lo, m) :: F)) (h2 : yzG L xs s ((e, m + 1, hi) :: F)) : yzG L xs s F := by
  intro r hr H
  rw [Bool.and_eq_true, xle_iff, xle_iff] at h0
  have a := xiv_s H e
  by_cases h : xden r e ≤ m
  · exact h1 r hr (xHc H (by omega) h)
  · exact h2 r hr (xHc H (by omega) (by omega))
/-- the same place, with a measure that is to go down -/
def xmz (μ : xjE) (h : xCd × xjE) : xCd := (h.1.1, h.1.2.1, h.1.2.2.1, h.1.2.2.2.1, [(h.2, μ, -1000000000000000, -1)], [], [])
def xmzo (h : xCd × xjE) : Bool := h.1.2.2.2.1.any (fun q => xeq q.1 h.2 && xle 0 q.2.1)
theorem yz_loop (hL : L ≤ 3584) {cut : Nat → Nat → Bool} {G : List (xCd × xjE)} {ext : List xCd} {n : Nat} (hext : ∀ c ∈ ext, yzG L xs c.1 c.2.2.2.1) (hμ : G.all xmzo = true) (hchk : ∀ g ∈ G, yzrun cut (xcut (G.map (xmz g.2) ++ ext)) n g.1.1 g.1.2.2.2.1 = true) : ∀ g ∈ G, yzG L xs g.1.1 g.1.2.2.2.1 := by
  have pos : ∀ g ∈ G, ∀ r, xH r g.1.2.2.2.1 → 0 ≤ xden r g.2 := by
    intro g hg r H
    obtain ⟨q, hq, h⟩ := List.any_eq_true.mp (List.all_eq_true.mp hμ g hg)
    rw [Bool.and_eq_true, xle_iff] at h
    have := H.2 q hq
    rw [xeq_s h.1] at this
    omega
  have main : ∀ k : Nat, ∀ g ∈ G, ∀ r, yzr L xs r → xH r g.1.2.2.2.1 → xden r g.2 < k → xGl (yfT (ykold L xs)) r yzP g.1.1 := by
    intro k
    induction k with
    | zero =>
      intro g hg r hr H h
      have := pos g hg r H
      omega
    | succ k ih =>
      intro g hg r hr H h
      refine yz_run hL (hchk g hg) hr H (xcut_s fun c hc r2 H2 hR => ?_)
      have hr2 : yzr L xs r2 := fun i hi => by rw [hR.2.2.2 i hi]; exact hr i hi
      rcases List.mem_append.mp hc with h1 | h1
      · obtain ⟨g2, hg2, e⟩ := List.mem_map.mp h1
        subst e
        have h3 := hR.1 (g2.2, g.2, -1000000000000000, -1) List.mem_cons_self
        have h3 : -1000000000000000 ≤ xden r2 g2.2 - xden r g.2 ∧ xden r2 g2.2 - xden r g.2 ≤ -1 := h3
        exact ih g2 hg2 r2 hr2 H2 (by omega)
      · exact hext c h1 r2 hr2 H2
  intro g hg r hr H
  exact main (xden r g.2).toNat.succ g hg r hr H (by have := pos g hg r H; omega)
end YTF
