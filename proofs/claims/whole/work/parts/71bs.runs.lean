noncomputable section YQ44
set_option maxRecDepth 100000 in
theorem yq22b_4 : yzrun (fun _ _ => false) (xat yn22b_5.1) 9000 yn22b_4.1 yn22b_4.2.2.2.1 = true := by decide +kernel
set_option maxRecDepth 100000 in
theorem yq22b_5 : yzrun (fun _ _ => false) (xat yn22b_6.1) 9000 yn22b_5.1 yn22b_5.2.2.2.1 = true := by decide +kernel
end YQ44
noncomputable section YQ45
set_option maxRecDepth 100000 in
theorem yq22b_6 : yzrun (fun _ _ => false) (xat yn22b_7.1) 9000 yn22b_6.1 yn22b_6.2.2.2.1 = true := by decide +kernel
set_option maxRecDepth 100000 in
theorem yq22b_7 : yzrun (fun _ _ => false) (xat yn22b_8.1) 9000 yn22b_7.1 yn22b_7.2.2.2.1 = true := by decide +kernel
end YQ45
noncomputable section YQ46
set_option maxRecDepth 100000 in
theorem yq22b_8 : yzrun (fun _ _ => false) (xat yn22b_9.1) 9000 yn22b_8.1 yn22b_8.2.2.2.1 = true := by decide +kernel
set_option maxRecDepth 100000 in
theorem yq22b_9 : yzrun (fun _ _ => false) (xat yn22b_10.1) 5498 yn22b_9.1 yn22b_9.2.2.2.1 = true := by decide +kernel
set_option maxRecDepth 100000 in
theorem yq22b_10 : yzrun yct22b (xcut [yn22b_11, yn22b_12]) 6 yn22b_10.1 yn22b_10.2.2.2.1 = true := by decide +kernel
end YQ46
noncomputable section YQ47
set_option maxRecDepth 100000 in
theorem yq22b_11 : yzrun (fun _ _ => false) (xat yn22b_13.1) 9000 yn22b_11.1 yn22b_11.2.2.2.1 = true := by decide +kernel
set_option maxRecDepth 100000 in
theorem yq22b_12 : yzrun yct22b (xcut [yn22b_28]) 69 yn22b_12.1 yn22b_12.2.2.2.1 = true := by decide +kernel
set_option maxRecDepth 100000 in
theorem yq22b_13 : yzrun (fun _ _ => false) (xat yn22b_14.1) 9000 yn22b_13.1 yn22b_13.2.2.2.1 = true := by decide +kernel
end YQ47
