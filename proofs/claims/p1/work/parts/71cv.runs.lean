noncomputable section YQ73
set_option maxRecDepth 100000 in
theorem yq22b_71 : yzrun (fun _ _ => false) (xat yn22b_72.1) 9000 yn22b_71.1 yn22b_71.2.2.2.1 = true := by decide +kernel
set_option maxRecDepth 100000 in
theorem yq22b_72 : yzrun (fun _ _ => false) (xat yn22b_73.1) 5219 yn22b_72.1 yn22b_72.2.2.2.1 = true := by decide +kernel
set_option maxRecDepth 100000 in
theorem yq22b_73 : yzrun yct22b (xcut [yn22b_63]) 6 yn22b_73.1 yn22b_73.2.2.2.1 = true := by decide +kernel
end YQ73
