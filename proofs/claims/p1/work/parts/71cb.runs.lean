noncomputable section YQ53
set_option maxRecDepth 100000 in
theorem yq22b_24 : yzrun (fun _ _ => false) (xat yn22b_25.1) 9000 yn22b_24.1 yn22b_24.2.2.2.1 = true := by decide +kernel
set_option maxRecDepth 100000 in
theorem yq22b_25 : yzrun (fun _ _ => false) (xat yn22b_26.1) 9000 yn22b_25.1 yn22b_25.2.2.2.1 = true := by decide +kernel
end YQ53
