noncomputable section YQ65
set_option maxRecDepth 100000 in
theorem yq22b_51 : yzrun (fun _ _ => false) (xat yn22b_52.1) 9000 yn22b_51.1 yn22b_51.2.2.2.1 = true := by decide +kernel
set_option maxRecDepth 100000 in
theorem yq22b_52 : yzrun (fun _ _ => false) (xat yn22b_53.1) 9000 yn22b_52.1 yn22b_52.2.2.2.1 = true := by decide +kernel
set_option maxRecDepth 100000 in
theorem yq22b_53 : yzrun yct22b (xcut [yn22b_38]) 1966 yn22b_53.1 yn22b_53.2.2.2.1 = true := by decide +kernel
set_option maxRecDepth 100000 in
theorem yq22b_54 : yzrun (fun _ _ => false) (xat yn22b_55.1) 479 yn22b_54.1 yn22b_54.2.2.2.1 = true := by decide +kernel
end YQ65
