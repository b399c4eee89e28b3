noncomputable section YQ69
set_option maxRecDepth 100000 in
theorem yq22b_63 : yzrun (fun _ _ => false) (xat yn22b_74.1) 9000 yn22b_63.1 yn22b_63.2.2.2.1 = true := by decide +kernel
set_option maxRecDepth 100000 in
theorem yq22b_64 : yzrun (fun _ _ => false) (xat yn22b_65.1) 9000 yn22b_64.1 yn22b_64.2.2.2.1 = true := by decide +kernel
end YQ69
