noncomputable section YQ63
set_option maxRecDepth 100000 in
theorem yq22b_47 : yzrun (fun _ _ => false) (xat yn22b_48.1) 9000 yn22b_47.1 yn22b_47.2.2.2.1 = true := by decide +kernel
set_option maxRecDepth 100000 in
theorem yq22b_48 : yzrun (fun _ _ => false) (xat yn22b_49.1) 9000 yn22b_48.1 yn22b_48.2.2.2.1 = true := by decide +kernel
end YQ63
