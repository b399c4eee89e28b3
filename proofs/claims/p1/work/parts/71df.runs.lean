noncomputable section YQ83
set_option maxRecDepth 100000 in
theorem yq22b_94 : yzrun (fun _ _ => false) (xat yn22b_95.1) 9000 yn22b_94.1 yn22b_94.2.2.2.1 = true := by decide +kernel
set_option maxRecDepth 100000 in
theorem yq22b_95 : yzrun (fun _ _ => false) (xcut []) 1968 yn22b_95.1 yn22b_95.2.2.2.1 = true := by decide +kernel
end YQ83
