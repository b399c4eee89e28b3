noncomputable section YQ62
set_option maxRecDepth 100000 in
theorem yq22b_45 : yzrun (fun _ _ => false) (xat yn22b_46.1) 9000 yn22b_45.1 yn22b_45.2.2.2.1 = true := by decide +kernel
set_option maxRecDepth 100000 in
theorem yq22b_46 : yzrun (fun _ _ => false) (xat yn22b_47.1) 9000 yn22b_46.1 yn22b_46.2.2.2.1 = true := by decide +kernel
end YQ62
