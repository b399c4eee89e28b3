noncomputable section YQ59
set_option maxRecDepth 100000 in
theorem yq22b_39 : yzrun (fun _ _ => false) (xat yn22b_40.1) 9000 yn22b_39.1 yn22b_39.2.2.2.1 = true := by decide +kernel
set_option maxRecDepth 100000 in
theorem yq22b_40 : yzrun (fun _ _ => false) (xat yn22b_41.1) 9000 yn22b_40.1 yn22b_40.2.2.2.1 = true := by decide +kernel
end YQ59
