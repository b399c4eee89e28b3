noncomputable section YQ44
set_option maxRecDepth 100000 in
theorem yq22b_4 : yzrun (fun _ _ => false) (xat yn22b_5.1) 9000 yn22b_4.1 yn22b_4.2.2.2.1 = true := by decide +kernel
set_option maxRecDepth 100000 in
theorem yq22b_5 : yzrun (fun _ _ => false) (xat yn22b_6.1) 9000 yn22b_5.1 yn22b_5.2.2.2.1 = true := by decide +kernel
end YQ44
