noncomputable section YQ57
set_option maxRecDepth 100000 in
theorem yq22b_33 : yzrun (fun _ _ => false) (xat yn22b_34.1) 9000 yn22b_33.1 yn22b_33.2.2.2.1 = true := by decide +kernel
set_option maxRecDepth 100000 in
theorem yq22b_34 : yzrun (fun _ _ => false) (xat yn22b_35.1) 9000 yn22b_34.1 yn22b_34.2.2.2.1 = true := by decide +kernel
end YQ57
