noncomputable section YQ68
set_option maxRecDepth 100000 in
theorem yq22b_60 : yzrun (fun _ _ => false) (xat yn22b_61.1) 9000 yn22b_60.1 yn22b_60.2.2.2.1 = true := by decide +kernel
set_option maxRecDepth 100000 in
theorem yq22b_61 : yzrun (fun _ _ => false) (xat yn22b_62.1) 5342 yn22b_61.1 yn22b_61.2.2.2.1 = true := by decide +kernel
set_option maxRecDepth 100000 in
theorem yq22b_62 : yzrun yct22b (xcut [yn22b_63, yn22b_64]) 6 yn22b_62.1 yn22b_62.2.2.2.1 = true := by decide +kernel
end YQ68
noncomputable section YQ69
set_option maxRecDepth 100000 in
theorem yq22b_63 : yzrun (fun _ _ => false) (xat yn22b_74.1) 9000 yn22b_63.1 yn22b_63.2.2.2.1 = true := by decide +kernel
set_option maxRecDepth 100000 in
theorem yq22b_64 : yzrun (fun _ _ => false) (xat yn22b_65.1) 9000 yn22b_64.1 yn22b_64.2.2.2.1 = true := by decide +kernel
end YQ69
noncomputable section YQ70
set_option maxRecDepth 100000 in
theorem yq22b_65 : yzrun (fun _ _ => false) (xat yn22b_66.1) 9000 yn22b_65.1 yn22b_65.2.2.2.1 = true := by decide +kernel
set_option maxRecDepth 100000 in
theorem yq22b_66 : yzrun (fun _ _ => false) (xat yn22b_67.1) 9000 yn22b_66.1 yn22b_66.2.2.2.1 = true := by decide +kernel
end YQ70
noncomputable section YQ71
set_option maxRecDepth 100000 in
theorem yq22b_67 : yzrun (fun _ _ => false) (xat yn22b_68.1) 9000 yn22b_67.1 yn22b_67.2.2.2.1 = true := by decide +kernel
set_option maxRecDepth 100000 in
theorem yq22b_68 : yzrun (fun _ _ => false) (xat yn22b_69.1) 9000 yn22b_68.1 yn22b_68.2.2.2.1 = true := by decide +kernel
end YQ71
