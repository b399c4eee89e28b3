noncomputable section YQ21
set_option maxRecDepth 100000 in
theorem yq54_0 : yzrun (fun _ _ => false) (xcut [yn54_1]) 9000 yxs_11 [(.pow (.add (.var 64) (.num 63)) 17, 54, 54), (.pow (.add (.var 64) (.num 63)) 17, 0, 54), (.var 0, 7, 7), (.var 0, 0, 7)] = true := by decide +kernel
set_option maxRecDepth 100000 in
theorem yq54_1 : yzrun (fun _ _ => false) (xcut [yn54_2]) 9000 yn54_1.1 yn54_1.2.2.2.1 = true := by decide +kernel
set_option maxRecDepth 100000 in
theorem yq54_2 : yzrun (fun _ _ => false) (xcut [yn54_3]) 9000 yn54_2.1 yn54_2.2.2.2.1 = true := by decide +kernel
end YQ21
