noncomputable section YQ81
set_option maxRecDepth 100000 in
theorem yq22b_90 : yzrun (fun _ _ => false) (xat yn22b_91.1) 9000 yn22b_90.1 yn22b_90.2.2.2.1 = true := by decide +kernel
set_option maxRecDepth 100000 in
theorem yq22b_91 : yzrun (fun _ _ => false) (xat yn22b_92.1) 9000 yn22b_91.1 yn22b_91.2.2.2.1 = true := by decide +kernel
end YQ81
