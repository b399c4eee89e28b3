noncomputable section YQ61
set_option maxRecDepth 100000 in
theorem yq22b_43 : yzrun (fun _ _ => false) (xat yn22b_44.1) 9000 yn22b_43.1 yn22b_43.2.2.2.1 = true := by decide +kernel
set_option maxRecDepth 100000 in
theorem yq22b_44 : yzrun (fun _ _ => false) (xat yn22b_45.1) 9000 yn22b_44.1 yn22b_44.2.2.2.1 = true := by decide +kernel
end YQ61
