noncomputable section YTG
/-! SYMBOLIC RUNS of this claim: on to a state that is printed whole, with the same unknowns -/
variable {L : Nat} {xs : Nat → Int32} {F : xF}
theorem yz_at (hL : L ≤ 3584) {cut : Nat → Nat → Bool} {n : Nat} {s t : xSt} {F2 : xF} (h : yzrun cut (xat t) n s F = true) (hs : (F2.all (fun q => xbd F q.1 q.2.1 q.2.2)) = true) (ht : yzG L xs t F2) : yzG L xs s F := fun r hr H => yz_run hL h hr H (xat_s (ht r hr ⟨H.1, fun q hq => xbd_s H (List.all_eq_true.mp hs q hq)⟩))
end YTG
