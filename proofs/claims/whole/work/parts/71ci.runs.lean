noncomputable section YQ60
set_option maxRecDepth 100000 in
theorem yq22b_41 : yzrun (fun _ _ => false) (xat yn22b_42.1) 9000 yn22b_41.1 yn22b_41.2.2.2.1 = true := by decide +kernel
set_option maxRecDepth 100000 in
theorem yq22b_42 : yzrun (fun _ _ => false) (xat yn22b_43.1) 9000 yn22b_42.1 yn22b_42.2.2.2.1 = true := by decide +kernel
end YQ60
noncomputable section YQ61
set_option maxRecDepth 100000 in
theorem yq22b_43 : yzrun (fun _ _ => false) (xat yn22b_44.1) 9000 yn22b_43.1 yn22b_43.2.2.2.1 = true := by decide +kernel
set_option maxRecDepth 100000 in
theorem yq22b_44 : yzrun (fun _ _ => false) (xat yn22b_45.1) 9000 yn22b_44.1 yn22b_44.2.2.2.1 = true := by decide +kernel
end YQ61
noncomputable section YQ62
set_option maxRecDepth 100000 in
theorem yq22b_45 : yzrun (fun _ _ => false) (xat yn22b_46.1) 9000 yn22b_45.1 yn22b_45.2.2.2.1 = true := by decide +kernel
set_option maxRecDepth 100000 in
theorem yq22b_46 : yzrun (fun _ _ => false) (xat yn22b_47.1) 9000 yn22b_46.1 yn22b_46.2.2.2.1 = true := by decide +kernel
end YQ62
noncomputable section YQ63
set_option maxRecDepth 100000 in
theorem yq22b_47 : yzrun (fun _ _ => false) (xat yn22b_48.1) 9000 yn22b_47.1 yn22b_47.2.2.2.1 = true := by decide +kernel
set_option maxRecDepth 100000 in
theorem yq22b_48 : yzrun (fun _ _ => false) (xat yn22b_49.1) 9000 yn22b_48.1 yn22b_48.2.2.2.1 = true := by decide +kernel
end YQ63
