noncomputable section YQ71
set_option maxRecDepth 100000 in
theorem yq22b_67 : yzrun (fun _ _ => false) (xat yn22b_68.1) 9000 yn22b_67.1 yn22b_67.2.2.2.1 = true := by decide +kernel
set_option maxRecDepth 100000 in
theorem yq22b_68 : yzrun (fun _ _ => false) (xat yn22b_69.1) 9000 yn22b_68.1 yn22b_68.2.2.2.1 = true := by decide +kernel
end YQ71
