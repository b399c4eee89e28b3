noncomputable section YQ66
set_option maxRecDepth 100000 in
theorem yq22b_55 : yzrun yct22b (xcut [yn22b_56]) 139 yn22b_55.1 yn22b_55.2.2.2.1 = true := by decide +kernel
set_option maxRecDepth 100000 in
theorem yq22b_56 : yzrun yct22b (xcut [yn22b_57]) 451 yn22b_56.1 yn22b_56.2.2.2.1 = true := by decide +kernel
set_option maxRecDepth 100000 in
theorem yq22b_57 : yzrun (fun _ _ => false) (xat yn22b_58.1) 9000 yn22b_57.1 yn22b_57.2.2.2.1 = true := by decide +kernel
end YQ66
