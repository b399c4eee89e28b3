noncomputable section YQ78
set_option maxRecDepth 100000 in
theorem yq22b_83 : yzrun (fun _ _ => false) (xat yn22b_84.1) 9000 yn22b_83.1 yn22b_83.2.2.2.1 = true := by decide +kernel
set_option maxRecDepth 100000 in
theorem yq22b_84 : yzrun (fun _ _ => false) (xat yn22b_85.1) 9000 yn22b_84.1 yn22b_84.2.2.2.1 = true := by decide +kernel
end YQ78
