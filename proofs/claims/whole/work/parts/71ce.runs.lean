noncomputable section YQ56
set_option maxRecDepth 100000 in
theorem yq22b_31 : yzrun (fun _ _ => false) (xat yn22b_32.1) 9000 yn22b_31.1 yn22b_31.2.2.2.1 = true := by decide +kernel
set_option maxRecDepth 100000 in
theorem yq22b_32 : yzrun (fun _ _ => false) (xat yn22b_33.1) 9000 yn22b_32.1 yn22b_32.2.2.2.1 = true := by decide +kernel
end YQ56
noncomputable section YQ57
set_option maxRecDepth 100000 in
theorem yq22b_33 : yzrun (fun _ _ => false) (xat yn22b_34.1) 9000 yn22b_33.1 yn22b_33.2.2.2.1 = true := by decide +kernel
set_option maxRecDepth 100000 in
theorem yq22b_34 : yzrun (fun _ _ => false) (xat yn22b_35.1) 9000 yn22b_34.1 yn22b_34.2.2.2.1 = true := by decide +kernel
end YQ57
noncomputable section YQ58
set_option maxRecDepth 100000 in
theorem yq22b_35 : yzrun (fun _ _ => false) (xat yn22b_36.1) 5498 yn22b_35.1 yn22b_35.2.2.2.1 = true := by decide +kernel
set_option maxRecDepth 100000 in
theorem yq22b_36 : yzrun yct22b (xcut [yn22b_37, yn22b_38]) 6 yn22b_36.1 yn22b_36.2.2.2.1 = true := by decide +kernel
set_option maxRecDepth 100000 in
theorem yq22b_37 : yzrun (fun _ _ => false) (xat yn22b_39.1) 9000 yn22b_37.1 yn22b_37.2.2.2.1 = true := by decide +kernel
set_option maxRecDepth 100000 in
theorem yq22b_38 : yzrun yct22b (xcut [yn22b_54]) 155 yn22b_38.1 yn22b_38.2.2.2.1 = true := by decide +kernel
end YQ58
noncomputable section YQ59
set_option maxRecDepth 100000 in
theorem yq22b_39 : yzrun (fun _ _ => false) (xat yn22b_40.1) 9000 yn22b_39.1 yn22b_39.2.2.2.1 = true := by decide +kernel
set_option maxRecDepth 100000 in
theorem yq22b_40 : yzrun (fun _ _ => false) (xat yn22b_41.1) 9000 yn22b_40.1 yn22b_40.2.2.2.1 = true := by decide +kernel
end YQ59
