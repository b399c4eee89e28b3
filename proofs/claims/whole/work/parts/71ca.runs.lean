noncomputable section YQ52
set_option maxRecDepth 100000 in
theorem yq22b_22 : yzrun (fun _ _ => false) (xat yn22b_23.1) 9000 yn22b_22.1 yn22b_22.2.2.2.1 = true := by decide +kernel
set_option maxRecDepth 100000 in
theorem yq22b_23 : yzrun (fun _ _ => false) (xat yn22b_24.1) 9000 yn22b_23.1 yn22b_23.2.2.2.1 = true := by decide +kernel
end YQ52
noncomputable section YQ53
set_option maxRecDepth 100000 in
theorem yq22b_24 : yzrun (fun _ _ => false) (xat yn22b_25.1) 9000 yn22b_24.1 yn22b_24.2.2.2.1 = true := by decide +kernel
set_option maxRecDepth 100000 in
theorem yq22b_25 : yzrun (fun _ _ => false) (xat yn22b_26.1) 9000 yn22b_25.1 yn22b_25.2.2.2.1 = true := by decide +kernel
end YQ53
noncomputable section YQ54
set_option maxRecDepth 100000 in
theorem yq22b_26 : yzrun (fun _ _ => false) (xat yn22b_27.1) 9000 yn22b_26.1 yn22b_26.2.2.2.1 = true := by decide +kernel
set_option maxRecDepth 100000 in
theorem yq22b_27 : yzrun yct22b (xcut [yn22b_12]) 1966 yn22b_27.1 yn22b_27.2.2.2.1 = true := by decide +kernel
set_option maxRecDepth 100000 in
theorem yq22b_28 : yzrun (fun _ _ => false) (xat yn22b_29.1) 9000 yn22b_28.1 yn22b_28.2.2.2.1 = true := by decide +kernel
end YQ54
noncomputable section YQ55
set_option maxRecDepth 100000 in
theorem yq22b_29 : yzrun (fun _ _ => false) (xat yn22b_30.1) 9000 yn22b_29.1 yn22b_29.2.2.2.1 = true := by decide +kernel
set_option maxRecDepth 100000 in
theorem yq22b_30 : yzrun (fun _ _ => false) (xat yn22b_31.1) 9000 yn22b_30.1 yn22b_30.2.2.2.1 = true := by decide +kernel
end YQ55
