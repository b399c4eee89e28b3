noncomputable section YQ46
set_option maxRecDepth 100000 in
theorem yq22b_77 : yzrun (fun _ _ => false) (xcut [yn22b_78]) 5277 yn22b_77.1 yn22b_77.2.2.2.1 = true := by decide +kernel
set_option maxRecDepth 100000 in
theorem yq22b_78 : yzrun yct22b (xcut [yn22b_79, yn22b_80]) 6 yn22b_78.1 yn22b_78.2.2.2.1 = true := by decide +kernel
set_option maxRecDepth 100000 in
theorem yq22b_79 : yzrun (fun _ _ => false) (xcut [yn22b_90]) 9000 yn22b_79.1 yn22b_79.2.2.2.1 = true := by decide +kernel
set_option maxRecDepth 100000 in
theorem yq22b_80 : yzrun (fun _ _ => false) (xcut [yn22b_81]) 9000 yn22b_80.1 yn22b_80.2.2.2.1 = true := by decide +kernel
end YQ46
