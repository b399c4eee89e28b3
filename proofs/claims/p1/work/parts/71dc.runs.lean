noncomputable section YQ80
set_option maxRecDepth 100000 in
theorem yq22b_87 : yzrun (fun _ _ => false) (xat yn22b_88.1) 9000 yn22b_87.1 yn22b_87.2.2.2.1 = true := by decide +kernel
set_option maxRecDepth 100000 in
theorem yq22b_88 : yzrun (fun _ _ => false) (xat yn22b_89.1) 5219 yn22b_88.1 yn22b_88.2.2.2.1 = true := by decide +kernel
set_option maxRecDepth 100000 in
theorem yq22b_89 : yzrun yct22b (xcut [yn22b_79]) 6 yn22b_89.1 yn22b_89.2.2.2.1 = true := by decide +kernel
end YQ80
