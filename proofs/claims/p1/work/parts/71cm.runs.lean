noncomputable section YQ64
set_option maxRecDepth 100000 in
theorem yq22b_49 : yzrun (fun _ _ => false) (xat yn22b_50.1) 9000 yn22b_49.1 yn22b_49.2.2.2.1 = true := by decide +kernel
set_option maxRecDepth 100000 in
theorem yq22b_50 : yzrun (fun _ _ => false) (xat yn22b_51.1) 9000 yn22b_50.1 yn22b_50.2.2.2.1 = true := by decide +kernel
end YQ64
