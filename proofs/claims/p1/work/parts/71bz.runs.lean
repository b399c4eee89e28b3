noncomputable section YQ51
set_option maxRecDepth 100000 in
theorem yq22b_20 : yzrun (fun _ _ => false) (xat yn22b_21.1) 9000 yn22b_20.1 yn22b_20.2.2.2.1 = true := by decide +kernel
set_option maxRecDepth 100000 in
theorem yq22b_21 : yzrun (fun _ _ => false) (xat yn22b_22.1) 9000 yn22b_21.1 yn22b_21.2.2.2.1 = true := by decide +kernel
end YQ51
