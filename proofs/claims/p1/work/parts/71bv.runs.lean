noncomputable section YQ47
set_option maxRecDepth 100000 in
theorem yq22b_11 : yzrun (fun _ _ => false) (xat yn22b_13.1) 9000 yn22b_11.1 yn22b_11.2.2.2.1 = true := by decide +kernel
set_option maxRecDepth 100000 in
theorem yq22b_12 : yzrun yct22b (xcut [yn22b_28]) 69 yn22b_12.1 yn22b_12.2.2.2.1 = true := by decide +kernel
set_option maxRecDepth 100000 in
theorem yq22b_13 : yzrun (fun _ _ => false) (xat yn22b_14.1) 9000 yn22b_13.1 yn22b_13.2.2.2.1 = true := by decide +kernel
end YQ47
