noncomputable section YQ67
set_option maxRecDepth 100000 in
theorem yq22b_58 : yzrun (fun _ _ => false) (xat yn22b_59.1) 9000 yn22b_58.1 yn22b_58.2.2.2.1 = true := by decide +kernel
set_option maxRecDepth 100000 in
theorem yq22b_59 : yzrun (fun _ _ => false) (xat yn22b_60.1) 9000 yn22b_59.1 yn22b_59.2.2.2.1 = true := by decide +kernel
end YQ67
