noncomputable section YQ68
set_option maxRecDepth 100000 in
theorem yq22b_60 : yzrun (fun _ _ => false) (xat yn22b_61.1) 9000 yn22b_60.1 yn22b_60.2.2.2.1 = true := by decide +kernel
set_option maxRecDepth 100000 in
theorem yq22b_61 : yzrun (fun _ _ => false) (xat yn22b_62.1) 5342 yn22b_61.1 yn22b_61.2.2.2.1 = true := by decide +kernel
set_option maxRecDepth 100000 in
theorem yq22b_62 : yzrun yct22b (xcut [yn22b_63, yn22b_64]) 6 yn22b_62.1 yn22b_62.2.2.2.1 = true := by decide +kernel
end YQ68
