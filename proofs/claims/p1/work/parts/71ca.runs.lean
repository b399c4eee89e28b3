noncomputable section YQ52
set_option maxRecDepth 100000 in
theorem yq22b_22 : yzrun (fun _ _ => false) (xat yn22b_23.1) 9000 yn22b_22.1 yn22b_22.2.2.2.1 = true := by decide +kernel
set_option maxRecDepth 100000 in
theorem yq22b_23 : yzrun (fun _ _ => false) (xat yn22b_24.1) 9000 yn22b_23.1 yn22b_23.2.2.2.1 = true := by decide +kernel
end YQ52
