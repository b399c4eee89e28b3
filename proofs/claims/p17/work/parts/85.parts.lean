noncomputable section EZF
/-! E2: a method's check run by run -/
theorem ezA_n {T : ycT} {C : List (Nat × ezCon)} {m : Nat} {c : ezCon} {hs : List ezHed} {N : Nat} {W : ezHts} : ([] : List ezHed).all (fun h => ezseg T C m c hs N W h) = true := by
  rw [List.all_nil]
theorem ezA_c {T : ycT} {C : List (Nat × ezCon)} {m : Nat} {c : ezCon} {hs hs2 : List ezHed} {N : Nat} {W : ezHts} {h : ezHed} (h1 : ezseg T C m c hs N W h = true) (h2 : hs2.all (fun h => ezseg T C m c hs N W h) = true) : (h :: hs2).all (fun h => ezseg T C m c hs N W h) = true := by
  rw [List.all_cons, Bool.and_eq_true]
  exact ⟨h1, h2⟩
theorem ezmth_a {T : ycT} {C : List (Nat × ezCon)} {m : Nat} {c : ezCon} {hs : List ezHed} {N : Nat} {W : ezHts} (h0 : ((Nat.blt c.2.2.1.2.2 4096 && ezsL 4096 1 c.1) && ezsF 4096 1 c.2.1) = true) (h1 : ezent T C m c hs N W = true) (h2 : hs.all (fun h => ezseg T C m c hs N W h) = true) : ezmth T C m c hs N W = true := by
  have key : ∀ a b d : Bool, a = true → b = true → d = true → (a && (b && d)) = true := by
    intro a b d ha hb hd
    rw [ha, hb, hd]
    exact Eq.refl true
  exact key _ _ _ h0 h1 h2
theorem ezM_2 {C : List (Nat × ezCon)} {m : Nat} {c : ezCon} {hs : List ezHed} {N : Nat} {W : ezHts} (hC : ezMs C) (h0 : ((Nat.blt c.2.2.1.2.2 4096 && ezsL 4096 1 c.1) && ezsF 4096 1 c.2.1) = true) (h1 : ezent yxT C m c hs N W = true) (h2 : hs.all (fun h => ezseg yxT C m c hs N W h) = true) : ezM m c := @ezM_s C m c hs N W hC (ezmth_a h0 h1 h2)
end EZF
