noncomputable section YQ54
set_option maxRecDepth 100000 in
theorem yq22b_26 : yzrun (fun _ _ => false) (xat yn22b_27.1) 9000 yn22b_26.1 yn22b_26.2.2.2.1 = true := by decide +kernel
set_option maxRecDepth 100000 in
theorem yq22b_27 : yzrun yct22b (xcut [yn22b_12]) 1966 yn22b_27.1 yn22b_27.2.2.2.1 = true := by decide +kernel
set_option maxRecDepth 100000 in
theorem yq22b_28 : yzrun (fun _ _ => false) (xat yn22b_29.1) 9000 yn22b_28.1 yn22b_28.2.2.2.1 = true := by decide +kernel
end YQ54
