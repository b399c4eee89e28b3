noncomputable section YQ76
set_option maxRecDepth 100000 in
theorem yq22b_79 : yzrun (fun _ _ => false) (xat yn22b_90.1) 9000 yn22b_79.1 yn22b_79.2.2.2.1 = true := by decide +kernel
set_option maxRecDepth 100000 in
theorem yq22b_80 : yzrun (fun _ _ => false) (xat yn22b_81.1) 9000 yn22b_80.1 yn22b_80.2.2.2.1 = true := by decide +kernel
end YQ76
