noncomputable section YQ45
set_option maxRecDepth 100000 in
theorem yq22b_6 : yzrun (fun _ _ => false) (xat yn22b_7.1) 9000 yn22b_6.1 yn22b_6.2.2.2.1 = true := by decide +kernel
set_option maxRecDepth 100000 in
theorem yq22b_7 : yzrun (fun _ _ => false) (xat yn22b_8.1) 9000 yn22b_7.1 yn22b_7.2.2.2.1 = true := by decide +kernel
end YQ45
