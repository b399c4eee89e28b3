noncomputable section YQ58
set_option maxRecDepth 100000 in
theorem yq22b_35 : yzrun (fun _ _ => false) (xat yn22b_36.1) 5498 yn22b_35.1 yn22b_35.2.2.2.1 = true := by decide +kernel
set_option maxRecDepth 100000 in
theorem yq22b_36 : yzrun yct22b (xcut [yn22b_37, yn22b_38]) 6 yn22b_36.1 yn22b_36.2.2.2.1 = true := by decide +kernel
set_option maxRecDepth 100000 in
theorem yq22b_37 : yzrun (fun _ _ => false) (xat yn22b_39.1) 9000 yn22b_37.1 yn22b_37.2.2.2.1 = true := by decide +kernel
set_option maxRecDepth 100000 in
theorem yq22b_38 : yzrun yct22b (xcut [yn22b_54]) 155 yn22b_38.1 yn22b_38.2.2.2.1 = true := by decide +kernel
end YQ58
