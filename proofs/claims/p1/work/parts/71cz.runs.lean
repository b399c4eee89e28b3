noncomputable section YQ77
set_option maxRecDepth 100000 in
theorem yq22b_81 : yzrun (fun _ _ => false) (xat yn22b_82.1) 9000 yn22b_81.1 yn22b_81.2.2.2.1 = true := by decide +kernel
set_option maxRecDepth 100000 in
theorem yq22b_82 : yzrun (fun _ _ => false) (xat yn22b_83.1) 9000 yn22b_82.1 yn22b_82.2.2.2.1 = true := by decide +kernel
end YQ77
