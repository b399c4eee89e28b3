noncomputable section YQ48
set_option maxRecDepth 100000 in
theorem yq22b_14 : yzrun (fun _ _ => false) (xat yn22b_15.1) 9000 yn22b_14.1 yn22b_14.2.2.2.1 = true := by decide +kernel
set_option maxRecDepth 100000 in
theorem yq22b_15 : yzrun (fun _ _ => false) (xat yn22b_16.1) 9000 yn22b_15.1 yn22b_15.2.2.2.1 = true := by decide +kernel
end YQ48
noncomputable section YQ49
set_option maxRecDepth 100000 in
theorem yq22b_16 : yzrun (fun _ _ => false) (xat yn22b_17.1) 9000 yn22b_16.1 yn22b_16.2.2.2.1 = true := by decide +kernel
set_option maxRecDepth 100000 in
theorem yq22b_17 : yzrun (fun _ _ => false) (xat yn22b_18.1) 9000 yn22b_17.1 yn22b_17.2.2.2.1 = true := by decide +kernel
end YQ49
noncomputable section YQ50
set_option maxRecDepth 100000 in
theorem yq22b_18 : yzrun (fun _ _ => false) (xat yn22b_19.1) 9000 yn22b_18.1 yn22b_18.2.2.2.1 = true := by decide +kernel
set_option maxRecDepth 100000 in
theorem yq22b_19 : yzrun (fun _ _ => false) (xat yn22b_20.1) 9000 yn22b_19.1 yn22b_19.2.2.2.1 = true := by decide +kernel
end YQ50
noncomputable section YQ51
set_option maxRecDepth 100000 in
theorem yq22b_20 : yzrun (fun _ _ => false) (xat yn22b_21.1) 9000 yn22b_20.1 yn22b_20.2.2.2.1 = true := by decide +kernel
set_option maxRecDepth 100000 in
theorem yq22b_21 : yzrun (fun _ _ => false) (xat yn22b_22.1) 9000 yn22b_21.1 yn22b_21.2.2.2.1 = true := by decide +kernel
end YQ51
