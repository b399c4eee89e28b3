noncomputable section YQ50
set_option maxRecDepth 100000 in
theorem yq22b_18 : yzrun (fun _ _ => false) (xat yn22b_19.1) 9000 yn22b_18.1 yn22b_18.2.2.2.1 = true := by decide +kernel
set_option maxRecDepth 100000 in
theorem yq22b_19 : yzrun (fun _ _ => false) (xat yn22b_20.1) 9000 yn22b_19.1 yn22b_19.2.2.2.1 = true := by decide +kernel
end YQ50
