noncomputable section YQ74
set_option maxRecDepth 100000 in
theorem yq22b_74 : yzrun (fun _ _ => false) (xat yn22b_75.1) 9000 yn22b_74.1 yn22b_74.2.2.2.1 = true := by decide +kernel
set_option maxRecDepth 100000 in
theorem yq22b_75 : yzrun (fun _ _ => false) (xat yn22b_76.1) 9000 yn22b_75.1 yn22b_75.2.2.2.1 = true := by decide +kernel
end YQ74
