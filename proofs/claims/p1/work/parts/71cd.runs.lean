noncomputable section YQ55
set_option maxRecDepth 100000 in
theorem yq22b_29 : yzrun (fun _ _ => false) (xat yn22b_30.1) 9000 yn22b_29.1 yn22b_29.2.2.2.1 = true := by decide +kernel
set_option maxRecDepth 100000 in
theorem yq22b_30 : yzrun (fun _ _ => false) (xat yn22b_31.1) 9000 yn22b_30.1 yn22b_30.2.2.2.1 = true := by decide +kernel
end YQ55
