noncomputable section YQ0
set_option maxRecDepth 100000 in
theorem yq1_0 : yzrun (fun _ _ => false) (fun _ _ _ _ _ _ _ => false) 194 yxs_11 [(.pow (.add (.var 64) (.num 63)) 17, 1, 1), (.pow (.add (.var 64) (.num 63)) 17, 0, 54), (.var 0, 7, 7), (.var 0, 0, 7)] = true := by decide +kernel
set_option maxRecDepth 100000 in
theorem yq2_0 : yzrun (fun _ _ => false) (fun _ _ _ _ _ _ _ => false) 200 yxs_11 [(.pow (.add (.var 64) (.num 63)) 17, 2, 2), (.pow (.add (.var 64) (.num 63)) 17, 0, 54), (.var 0, 7, 7), (.var 0, 0, 7)] = true := by decide +kernel
set_option maxRecDepth 100000 in
theorem yq3_0 : yzrun (fun _ _ => false) (fun _ _ _ _ _ _ _ => false) 172 yxs_11 [(.pow (.add (.var 64) (.num 63)) 17, 3, 3), (.pow (.add (.var 64) (.num 63)) 17, 0, 54), (.var 0, 7, 7), (.var 0, 0, 7)] = true := by decide +kernel
set_option maxRecDepth 100000 in
theorem yq4_0 : yzrun (fun _ _ => false) (fun _ _ _ _ _ _ _ => false) 172 yxs_11 [(.pow (.add (.var 64) (.num 63)) 17, 4, 4), (.pow (.add (.var 64) (.num 63)) 17, 0, 54), (.var 0, 7, 7), (.var 0, 0, 7)] = true := by decide +kernel
set_option maxRecDepth 100000 in
theorem yq7_0 : yzrun (fun _ _ => false) (fun _ _ _ _ _ _ _ => false) 200 yxs_11 [(.pow (.add (.var 64) (.num 63)) 17, 7, 7), (.pow (.add (.var 64) (.num 63)) 17, 0, 54), (.var 0, 7, 7), (.var 0, 0, 7)] = true := by decide +kernel
set_option maxRecDepth 100000 in
theorem yq8_0 : yzrun (fun _ _ => false) (fun _ _ _ _ _ _ _ => false) 172 yxs_11 [(.pow (.add (.var 64) (.num 63)) 17, 8, 8), (.pow (.add (.var 64) (.num 63)) 17, 0, 54), (.var 0, 7, 7), (.var 0, 0, 7)] = true := by decide +kernel
set_option maxRecDepth 100000 in
theorem yq9_0 : yzrun (fun _ _ => false) (fun _ _ _ _ _ _ _ => false) 188 yxs_11 [(.pow (.add (.var 64) (.num 63)) 17, 9, 9), (.pow (.add (.var 64) (.num 63)) 17, 0, 54), (.var 0, 7, 7), (.var 0, 0, 7)] = true := by decide +kernel
set_option maxRecDepth 100000 in
theorem yq10_0 : yzrun (fun _ _ => false) (fun _ _ _ _ _ _ _ => false) 149 yxs_11 [(.pow (.add (.var 64) (.num 63)) 17, 10, 10), (.pow (.add (.var 64) (.num 63)) 17, 0, 54), (.var 0, 7, 7), (.var 0, 0, 7)] = true := by decide +kernel
set_option maxRecDepth 100000 in
theorem yq11_0 : yzrun (fun _ _ => false) (fun _ _ _ _ _ _ _ => false) 255 yxs_11 [(.pow (.add (.var 64) (.num 63)) 17, 11, 11), (.pow (.add (.var 64) (.num 63)) 17, 0, 54), (.var 0, 7, 7), (.var 0, 0, 7)] = true := by decide +kernel
set_option maxRecDepth 100000 in
theorem yq12_0 : yzrun (fun _ _ => false) (fun _ _ _ _ _ _ _ => false) 172 yxs_11 [(.pow (.add (.var 64) (.num 63)) 17, 12, 12), (.pow (.add (.var 64) (.num 63)) 17, 0, 54), (.var 0, 7, 7), (.var 0, 0, 7)] = true := by decide +kernel
end YQ0
