noncomputable section YQ80
set_option maxRecDepth 100000 in
theorem yq22b_87 : yzrun (fun _ _ => false) (xat yn22b_88.1) 9000 yn22b_87.1 yn22b_87.2.2.2.1 = true := by decide +kernel
set_option maxRecDepth 100000 in
theorem yq22b_88 : yzrun (fun _ _ => false) (xat yn22b_89.1) 5219 yn22b_88.1 yn22b_88.2.2.2.1 = true := by decide +kernel
set_option maxRecDepth 100000 in
theorem yq22b_89 : yzrun yct22b (xcut [yn22b_79]) 6 yn22b_89.1 yn22b_89.2.2.2.1 = true := by decide +kernel
end YQ80
noncomputable section YQ81
set_option maxRecDepth 100000 in
theorem yq22b_90 : yzrun (fun _ _ => false) (xat yn22b_91.1) 9000 yn22b_90.1 yn22b_90.2.2.2.1 = true := by decide +kernel
set_option maxRecDepth 100000 in
theorem yq22b_91 : yzrun (fun _ _ => false) (xat yn22b_92.1) 9000 yn22b_91.1 yn22b_91.2.2.2.1 = true := by decide +kernel
end YQ81
noncomputable section YQ82
set_option maxRecDepth 100000 in
theorem yq22b_92 : yzrun (fun _ _ => false) (xat yn22b_93.1) 9000 yn22b_92.1 yn22b_92.2.2.2.1 = true := by decide +kernel
set_option maxRecDepth 100000 in
theorem yq22b_93 : yzrun (fun _ _ => false) (xat yn22b_94.1) 9000 yn22b_93.1 yn22b_93.2.2.2.1 = true := by decide +kernel
end YQ82
noncomputable section YQ83
set_option maxRecDepth 100000 in
theorem yq22b_94 : yzrun (fun _ _ => false) (xat yn22b_95.1) 9000 yn22b_94.1 yn22b_94.2.2.2.1 = true := by decide +kernel
set_option maxRecDepth 100000 in
theorem yq22b_95 : yzrun (fun _ _ => false) (xcut []) 1968 yn22b_95.1 yn22b_95.2.2.2.1 = true := by decide +kernel
end YQ83
