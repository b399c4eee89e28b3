noncomputable section YQ56
set_option maxRecDepth 100000 in
theorem yq22b_31 : yzrun (fun _ _ => false) (xat yn22b_32.1) 9000 yn22b_31.1 yn22b_31.2.2.2.1 = true := by decide +kernel
set_option maxRecDepth 100000 in
theorem yq22b_32 : yzrun (fun _ _ => false) (xat yn22b_33.1) 9000 yn22b_32.1 yn22b_32.2.2.2.1 = true := by decide +kernel
end YQ56
