noncomputable section YQ76
set_option maxRecDepth 100000 in
theorem yq22b_79 : yzrun (fun _ _ => false) (xat yn22b_90.1) 9000 yn22b_79.1 yn22b_79.2.2.2.1 = true := by decide +kernel
set_option maxRecDepth 100000 in
theorem yq22b_80 : yzrun (fun _ _ => false) (xat yn22b_81.1) 9000 yn22b_80.1 yn22b_80.2.2.2.1 = true := by decide +kernel
end YQ76
noncomputable section YQ77
set_option maxRecDepth 100000 in
theorem yq22b_81 : yzrun (fun _ _ => false) (xat yn22b_82.1) 9000 yn22b_81.1 yn22b_81.2.2.2.1 = true := by decide +kernel
set_option maxRecDepth 100000 in
theorem yq22b_82 : yzrun (fun _ _ => false) (xat yn22b_83.1) 9000 yn22b_82.1 yn22b_82.2.2.2.1 = true := by decide +kernel
end YQ77
noncomputable section YQ78
set_option maxRecDepth 100000 in
theorem yq22b_83 : yzrun (fun _ _ => false) (xat yn22b_84.1) 9000 yn22b_83.1 yn22b_83.2.2.2.1 = true := by decide +kernel
set_option maxRecDepth 100000 in
theorem yq22b_84 : yzrun (fun _ _ => false) (xat yn22b_85.1) 9000 yn22b_84.1 yn22b_84.2.2.2.1 = true := by decide +kernel
end YQ78
noncomputable section YQ79
set_option maxRecDepth 100000 in
theorem yq22b_85 : yzrun (fun _ _ => false) (xat yn22b_86.1) 9000 yn22b_85.1 yn22b_85.2.2.2.1 = true := by decide +kernel
set_option maxRecDepth 100000 in
theorem yq22b_86 : yzrun (fun _ _ => false) (xat yn22b_87.1) 9000 yn22b_86.1 yn22b_86.2.2.2.1 = true := by decide +kernel
end YQ79
