noncomputable section YQ9
set_option maxRecDepth 100000 in
theorem yq32_8 : yzrun (fun _ _ => false) (fun _ _ _ _ _ _ _ => false) 3950 yxs_11 [(.var 128, 8, 8), (.var 128, 7, 8), (.var 128, 6, 8), (.var 128, 6, 2147483647), (.pow (.add (.var 64) (.num 63)) 17, 32, 32), (.pow (.add (.var 64) (.num 63)) 17, 0, 54), (.var 0, 7, 7), (.var 0, 0, 7)] = true := by decide +kernel
set_option maxRecDepth 100000 in
theorem yq32_9 : yzrun (fun _ _ => false) (fun _ _ _ _ _ _ _ => false) 3950 yxs_11 [(.var 128, 9, 9), (.var 128, 9, 10), (.var 128, 9, 2147483647), (.var 128, 6, 2147483647), (.pow (.add (.var 64) (.num 63)) 17, 32, 32), (.pow (.add (.var 64) (.num 63)) 17, 0, 54), (.var 0, 7, 7), (.var 0, 0, 7)] = true := by decide +kernel
set_option maxRecDepth 100000 in
theorem yq32_10 : yzrun (fun _ _ => false) (fun _ _ _ _ _ _ _ => false) 3950 yxs_11 [(.var 128, 10, 10), (.var 128, 9, 10), (.var 128, 9, 2147483647), (.var 128, 6, 2147483647), (.pow (.add (.var 64) (.num 63)) 17, 32, 32), (.pow (.add (.var 64) (.num 63)) 17, 0, 54), (.var 0, 7, 7), (.var 0, 0, 7)] = true := by decide +kernel
set_option maxRecDepth 100000 in
theorem yq32_11 : yzrun (fun _ _ => false) (fun _ _ _ _ _ _ _ => false) 3950 yxs_11 [(.var 128, 11, 2147483647), (.var 128, 9, 2147483647), (.var 128, 6, 2147483647), (.pow (.add (.var 64) (.num 63)) 17, 32, 32), (.pow (.add (.var 64) (.num 63)) 17, 0, 54), (.var 0, 7, 7), (.var 0, 0, 7)] = true := by decide +kernel
set_option maxRecDepth 100000 in
theorem yq33_0 : yzrun (fun _ _ => false) (fun _ _ _ _ _ _ _ => false) 131 yxs_11 [(.pow (.add (.var 64) (.num 63)) 17, 33, 33), (.pow (.add (.var 64) (.num 63)) 17, 0, 54), (.var 0, 7, 7), (.var 0, 0, 7)] = true := by decide +kernel
set_option maxRecDepth 100000 in
theorem yq34_0 : yzrun (fun _ _ => false) (fun _ _ _ _ _ _ _ => false) 162 yxs_11 [(.pow (.add (.var 64) (.num 63)) 17, 34, 34), (.pow (.add (.var 64) (.num 63)) 17, 0, 54), (.var 0, 7, 7), (.var 0, 0, 7)] = true := by decide +kernel
end YQ9
