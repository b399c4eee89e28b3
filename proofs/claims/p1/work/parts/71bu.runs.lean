noncomputable section YQ46
set_option maxRecDepth 100000 in
theorem yq22b_8 : yzrun (fun _ _ => false) (xat yn22b_9.1) 9000 yn22b_8.1 yn22b_8.2.2.2.1 = true := by decide +kernel
set_option maxRecDepth 100000 in
theorem yq22b_9 : yzrun (fun _ _ => false) (xat yn22b_10.1) 5498 yn22b_9.1 yn22b_9.2.2.2.1 = true := by decide +kernel
set_option maxRecDepth 100000 in
theorem yq22b_10 : yzrun yct22b (xcut [yn22b_11, yn22b_12]) 6 yn22b_10.1 yn22b_10.2.2.2.1 = true := by decide +kernel
end YQ46
