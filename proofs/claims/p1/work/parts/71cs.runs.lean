noncomputable section YQ70
set_option maxRecDepth 100000 in
theorem yq22b_65 : yzrun (fun _ _ => false) (xat yn22b_66.1) 9000 yn22b_65.1 yn22b_65.2.2.2.1 = true := by decide +kernel
set_option maxRecDepth 100000 in
theorem yq22b_66 : yzrun (fun _ _ => false) (xat yn22b_67.1) 9000 yn22b_66.1 yn22b_66.2.2.2.1 = true := by decide +kernel
end YQ70
