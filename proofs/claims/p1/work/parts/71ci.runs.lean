noncomputable section YQ60
set_option maxRecDepth 100000 in
theorem yq22b_41 : yzrun (fun _ _ => false) (xat yn22b_42.1) 9000 yn22b_41.1 yn22b_41.2.2.2.1 = true := by decide +kernel
set_option maxRecDepth 100000 in
theorem yq22b_42 : yzrun (fun _ _ => false) (xat yn22b_43.1) 9000 yn22b_42.1 yn22b_42.2.2.2.1 = true := by decide +kernel
end YQ60
