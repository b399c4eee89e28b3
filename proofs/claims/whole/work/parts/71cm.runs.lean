noncomputable section YQ64
set_option maxRecDepth 100000 in
theorem yq22b_49 : yzrun (fun _ _ => false) (xat yn22b_50.1) 9000 yn22b_49.1 yn22b_49.2.2.2.1 = true := by decide +kernel
set_option maxRecDepth 100000 in
theorem yq22b_50 : yzrun (fun _ _ => false) (xat yn22b_51.1) 9000 yn22b_50.1 yn22b_50.2.2.2.1 = true := by decide +kernel
end YQ64
noncomputable section YQ65
set_option maxRecDepth 100000 in
theorem yq22b_51 : yzrun (fun _ _ => false) (xat yn22b_52.1) 9000 yn22b_51.1 yn22b_51.2.2.2.1 = true := by decide +kernel
set_option maxRecDepth 100000 in
theorem yq22b_52 : yzrun (fun _ _ => false) (xat yn22b_53.1) 9000 yn22b_52.1 yn22b_52.2.2.2.1 = true := by decide +kernel
set_option maxRecDepth 100000 in
theorem yq22b_53 : yzrun yct22b (xcut [yn22b_38]) 1966 yn22b_53.1 yn22b_53.2.2.2.1 = true := by decide +kernel
set_option maxRecDepth 100000 in
theorem yq22b_54 : yzrun (fun _ _ => false) (xat yn22b_55.1) 479 yn22b_54.1 yn22b_54.2.2.2.1 = true := by decide +kernel
end YQ65
noncomputable section YQ66
set_option maxRecDepth 100000 in
theorem yq22b_55 : yzrun yct22b (xcut [yn22b_56]) 139 yn22b_55.1 yn22b_55.2.2.2.1 = true := by decide +kernel
set_option maxRecDepth 100000 in
theorem yq22b_56 : yzrun yct22b (xcut [yn22b_57]) 451 yn22b_56.1 yn22b_56.2.2.2.1 = true := by decide +kernel
set_option maxRecDepth 100000 in
theorem yq22b_57 : yzrun (fun _ _ => false) (xat yn22b_58.1) 9000 yn22b_57.1 yn22b_57.2.2.2.1 = true := by decide +kernel
end YQ66
noncomputable section YQ67
set_option maxRecDepth 100000 in
theorem yq22b_58 : yzrun (fun _ _ => false) (xat yn22b_59.1) 9000 yn22b_58.1 yn22b_58.2.2.2.1 = true := by decide +kernel
set_option maxRecDepth 100000 in
theorem yq22b_59 : yzrun (fun _ _ => false) (xat yn22b_60.1) 9000 yn22b_59.1 yn22b_59.2.2.2.1 = true := by decide +kernel
end YQ67
