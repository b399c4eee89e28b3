noncomputable section YQ72
set_option maxRecDepth 100000 in
theorem yq22b_69 : yzrun (fun _ _ => false) (xat yn22b_70.1) 9000 yn22b_69.1 yn22b_69.2.2.2.1 = true := by decide +kernel
set_option maxRecDepth 100000 in
theorem yq22b_70 : yzrun (fun _ _ => false) (xat yn22b_71.1) 9000 yn22b_70.1 yn22b_70.2.2.2.1 = true := by decide +kernel
end YQ72
noncomputable section YQ73
set_option maxRecDepth 100000 in
theorem yq22b_71 : yzrun (fun _ _ => false) (xat yn22b_72.1) 9000 yn22b_71.1 yn22b_71.2.2.2.1 = true := by decide +kernel
set_option maxRecDepth 100000 in
theorem yq22b_72 : yzrun (fun _ _ => false) (xat yn22b_73.1) 5219 yn22b_72.1 yn22b_72.2.2.2.1 = true := by decide +kernel
set_option maxRecDepth 100000 in
theorem yq22b_73 : yzrun yct22b (xcut [yn22b_63]) 6 yn22b_73.1 yn22b_73.2.2.2.1 = true := by decide +kernel
end YQ73
noncomputable section YQ74
set_option maxRecDepth 100000 in
theorem yq22b_74 : yzrun (fun _ _ => false) (xat yn22b_75.1) 9000 yn22b_74.1 yn22b_74.2.2.2.1 = true := by decide +kernel
set_option maxRecDepth 100000 in
theorem yq22b_75 : yzrun (fun _ _ => false) (xat yn22b_76.1) 9000 yn22b_75.1 yn22b_75.2.2.2.1 = true := by decide +kernel
end YQ74
noncomputable section YQ75
set_option maxRecDepth 100000 in
theorem yq22b_76 : yzrun (fun _ _ => false) (xat yn22b_77.1) 9000 yn22b_76.1 yn22b_76.2.2.2.1 = true := by decide +kernel
set_option maxRecDepth 100000 in
theorem yq22b_77 : yzrun (fun _ _ => false) (xat yn22b_78.1) 5277 yn22b_77.1 yn22b_77.2.2.2.1 = true := by decide +kernel
set_option maxRecDepth 100000 in
theorem yq22b_78 : yzrun yct22b (xcut [yn22b_79, yn22b_80]) 6 yn22b_78.1 yn22b_78.2.2.2.1 = true := by decide +kernel
end YQ75
