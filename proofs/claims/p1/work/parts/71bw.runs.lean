noncomputable section YQ48
set_option maxRecDepth 100000 in
theorem yq22b_14 : yzrun (fun _ _ => false) (xat yn22b_15.1) 9000 yn22b_14.1 yn22b_14.2.2.2.1 = true := by decide +kernel
set_option maxRecDepth 100000 in
theorem yq22b_15 : yzrun (fun _ _ => false) (xat yn22b_16.1) 9000 yn22b_15.1 yn22b_15.2.2.2.1 = true := by decide +kernel
end YQ48
