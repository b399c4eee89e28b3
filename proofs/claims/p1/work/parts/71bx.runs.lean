noncomputable section YQ49
set_option maxRecDepth 100000 in
theorem yq22b_16 : yzrun (fun _ _ => false) (xat yn22b_17.1) 9000 yn22b_16.1 yn22b_16.2.2.2.1 = true := by decide +kernel
set_option maxRecDepth 100000 in
theorem yq22b_17 : yzrun (fun _ _ => false) (xat yn22b_18.1) 9000 yn22b_17.1 yn22b_17.2.2.2.1 = true := by decide +kernel
end YQ49
