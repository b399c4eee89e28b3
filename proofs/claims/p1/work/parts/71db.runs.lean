noncomputable section YQ79
set_option maxRecDepth 100000 in
theorem yq22b_85 : yzrun (fun _ _ => false) (xat yn22b_86.1) 9000 yn22b_85.1 yn22b_85.2.2.2.1 = true := by decide +kernel
set_option maxRecDepth 100000 in
theorem yq22b_86 : yzrun (fun _ _ => false) (xat yn22b_87.1) 9000 yn22b_86.1 yn22b_86.2.2.2.1 = true := by decide +kernel
end YQ79
