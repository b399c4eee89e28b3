noncomputable section YQ75
set_option maxRecDepth 100000 in
theorem yq22b_76 : yzrun (fun _ _ => false) (xat yn22b_77.1) 9000 yn22b_76.1 yn22b_76.2.2.2.1 = true := by decide +kernel
set_option maxRecDepth 100000 in
theorem yq22b_77 : yzrun (fun _ _ => false) (xat yn22b_78.1) 5277 yn22b_77.1 yn22b_77.2.2.2.1 = true := by decide +kernel
set_option maxRecDepth 100000 in
theorem yq22b_78 : yzrun yct22b (xcut [yn22b_79, yn22b_80]) 6 yn22b_78.1 yn22b_78.2.2.2.1 = true := by decide +kernel
end YQ75
