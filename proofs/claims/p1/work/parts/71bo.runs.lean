noncomputable section YQ40
set_option maxRecDepth 100000 in
theorem yq54_1 : yzrun (fun _ _ => false) (xat yn54_2.1) 9000 yn54_1.1 yn54_1.2.2.2.1 = true := by decide +kernel
set_option maxRecDepth 100000 in
theorem yq54_2 : yzrun (fun _ _ => false) (xat yn54_3.1) 9000 yn54_2.1 yn54_2.2.2.2.1 = true := by decide +kernel
end YQ40
