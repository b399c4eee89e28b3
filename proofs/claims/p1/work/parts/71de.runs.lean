noncomputable section YQ82
set_option maxRecDepth 100000 in
theorem yq22b_92 : yzrun (fun _ _ => false) (xat yn22b_93.1) 9000 yn22b_92.1 yn22b_92.2.2.2.1 = true := by decide +kernel
set_option maxRecDepth 100000 in
theorem yq22b_93 : yzrun (fun _ _ => false) (xat yn22b_94.1) 9000 yn22b_93.1 yn22b_93.2.2.2.1 = true := by decide +kernel
end YQ82
