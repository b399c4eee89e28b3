noncomputable section YQ72
set_option maxRecDepth 100000 in
theorem yq22b_69 : yzrun (fun _ _ => false) (xat yn22b_70.1) 9000 yn22b_69.1 yn22b_69.2.2.2.1 = true := by decide +kernel
set_option maxRecDepth 100000 in
theorem yq22b_70 : yzrun (fun _ _ => false) (xat yn22b_71.1) 9000 yn22b_70.1 yn22b_70.2.2.2.1 = true := by decide +kernel
end YQ72
