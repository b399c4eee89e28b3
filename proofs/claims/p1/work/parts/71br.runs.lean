noncomputable section YQ43
set_option maxRecDepth 100000 in
theorem yq22b_1 : yzrun yct22b (xcut [yn22b_2]) 58 yn22b_1.1 yn22b_1.2.2.2.1 = true := by decide +kernel
set_option maxRecDepth 100000 in
theorem yq22b_2 : yzrun (fun _ _ => false) (xat yn22b_3.1) 9000 yn22b_2.1 yn22b_2.2.2.2.1 = true := by decide +kernel
set_option maxRecDepth 100000 in
theorem yq22b_3 : yzrun (fun _ _ => false) (xat yn22b_4.1) 9000 yn22b_3.1 yn22b_3.2.2.2.1 = true := by decide +kernel
end YQ43
