noncomputable section YQ8
set_option maxRecDepth 100000 in
theorem yq32_4 : yzrun (fun _ _ => false) (fun _ _ _ _ _ _ _ => false) 3950 yxs_11 [(.var 128, 4, 4), (.var 128, 4, 5), (.var 128, 3, 5), (.var 128, (-2147483648), 5), (.pow (.add (.var 64) (.num 63)) 17, 32, 32), (.pow (.add (.var 64) (.num 63)) 17, 0, 54), (.var 0, 7, 7), (.var 0, 0, 7)] = true := by decide +kernel
set_option maxRecDepth 100000 in
theorem yq32_5 : yzrun (fun _ _ => false) (fun _ _ _ _ _ _ _ => false) 3950 yxs_11 [(.var 128, 5, 5), (.var 128, 4, 5), (.var 128, 3, 5), (.var 128, (-2147483648), 5), (.pow (.add (.var 64) (.num 63)) 17, 32, 32), (.pow (.add (.var 64) (.num 63)) 17, 0, 54), (.var 0, 7, 7), (.var 0, 0, 7)] = true := by decide +kernel
set_option maxRecDepth 100000 in
theorem yq32_6 : yzrun (fun _ _ => false) (fun _ _ _ _ _ _ _ => false) 3950 yxs_11 [(.var 128, 6, 6), (.var 128, 6, 8), (.var 128, 6, 2147483647), (.pow (.add (.var 64) (.num 63)) 17, 32, 32), (.pow (.add (.var 64) (.num 63)) 17, 0, 54), (.var 0, 7, 7), (.var 0, 0, 7)] = true := by decide +kernel
set_option maxRecDepth 100000 in
theorem yq32_7 : yzrun (fun _ _ => false) (fun _ _ _ _ _ _ _ => false) 3950 yxs_11 [(.var 128, 7, 7), (.var 128, 7, 8), (.var 128, 6, 8), (.var 128, 6, 2147483647), (.pow (.add (.var 64) (.num 63)) 17, 32, 32), (.pow (.add (.var 64) (.num 63)) 17, 0, 54), (.var 0, 7, 7), (.var 0, 0, 7)] = true := by decide +kernel
end YQ8
noncomputable section YQ9
set_option maxRecDepth 100000 in
theorem yq32_8 : yzrun (fun _ _ => false) (fun _ _ _ _ _ _ _ => false) 3950 yxs_11 [(.var 128, 8, 8), (.var 128, 7, 8), (.var 128, 6, 8), (.var 128, 6, 2147483647), (.pow (.add (.var 64) (.num 63)) 17, 32, 32), (.pow (.add (.var 64) (.num 63)) 17, 0, 54), (.var 0, 7, 7), (.var 0, 0, 7)] = true := by decide +kernel
set_option maxRecDepth 100000 in
theorem yq32_9 : yzrun (fun _ _ => false) (fun _ _ _ _ _ _ _ => false) 3950 yxs_11 [(.var 128, 9, 9), (.var 128, 9, 10), (.var 128, 9, 2147483647), (.var 128, 6, 2147483647), (.pow (.add (.var 64) (.num 63)) 17, 32, 32), (.pow (.add (.var 64) (.num 63)) 17, 0, 54), (.var 0, 7, 7), (.var 0, 0, 7)] = true := by decide +kernel
set_option maxRecDepth 100000 in
theorem yq32_10 : yzrun (fun _ _ => false) (fun _ _ _ _ _ _ _ => false) 3950 yxs_11 [(.var 128, 10, 10), (.var 128, 9, 10), (.var 128, 9, 2147483647), (.var 128, 6, 2147483647), (.pow (.add (.var 64) (.num 63)) 17, 32, 32), (.pow (.add (.var 64) (.num 63)) 17, 0, 54), (.var 0, 7, 7), (.var 0, 0, 7)] = true := by decide +kernel
set_option maxRecDepth 100000 in
theorem yq32_11 : yzrun (fun _ _ => false) (fun _ _ _ _ _ _ _ => false) 3950 yxs_11 [(.var 128, 11, 2147483647), (.var 128, 9, 2147483647), (.var 128, 6, 2147483647), (.pow (.add (.var 64) (.num 63)) 17, 32, 32), (.pow (.add (.var 64) (.num 63)) 17, 0, 54), (.var 0, 7, 7), (.var 0, 0, 7)] = true := by decide +kernel
set_option maxRecDepth 100000 in
theorem yq33_0 : yzrun (fun _ _ => false) (fun _ _ _ _ _ _ _ => false) 131 yxs_11 [(.pow (.add (.var 64) (.num 63)) 17, 33, 33), (.pow (.add (.var 64) (.num 63)) 17, 0, 54), (.var 0, 7, 7), (.var 0, 0, 7)] = true := by decide +kernel
set_option maxRecDepth 100000 in
theorem yq34_0 : yzrun (fun _ _ => false) (fun _ _ _ _ _ _ _ => false) 162 yxs_11 [(.pow (.add (.var 64) (.num 63)) 17, 34, 34), (.pow (.add (.var 64) (.num 63)) 17, 0, 54), (.var 0, 7, 7), (.var 0, 0, 7)] = true := by decide +kernel
end YQ9
noncomputable section YQ10
set_option maxRecDepth 100000 in
theorem yq35_0 : yzrun (fun _ _ => false) (fun _ _ _ _ _ _ _ => false) 6049 yxs_11 [(.var 128, (-2147483648), 0), (.var 128, (-2147483648), 1), (.var 128, (-2147483648), 3), (.pow (.add (.var 64) (.num 63)) 17, 35, 35), (.pow (.add (.var 64) (.num 63)) 17, 0, 54), (.var 0, 7, 7), (.var 0, 0, 7)] = true := by decide +kernel
set_option maxRecDepth 100000 in
theorem yq35_1 : yzrun (fun _ _ => false) (fun _ _ _ _ _ _ _ => false) 7190 yxs_11 [(.var 128, 1, 1), (.var 128, (-2147483648), 1), (.var 128, (-2147483648), 3), (.pow (.add (.var 64) (.num 63)) 17, 35, 35), (.pow (.add (.var 64) (.num 63)) 17, 0, 54), (.var 0, 7, 7), (.var 0, 0, 7)] = true := by decide +kernel
set_option maxRecDepth 100000 in
theorem yq35_2 : yzrun (fun _ _ => false) (fun _ _ _ _ _ _ _ => false) 8428 yxs_11 [(.var 128, 2, 2), (.var 128, 2, 3), (.var 128, (-2147483648), 3), (.pow (.add (.var 64) (.num 63)) 17, 35, 35), (.pow (.add (.var 64) (.num 63)) 17, 0, 54), (.var 0, 7, 7), (.var 0, 0, 7)] = true := by decide +kernel
end YQ10
noncomputable section YQ11
set_option maxRecDepth 100000 in
theorem yq35_3 : yzrun (fun _ _ => false) (fun _ _ _ _ _ _ _ => false) 9680 yxs_11 [(.var 128, 3, 3), (.var 128, 2, 3), (.var 128, (-2147483648), 3), (.pow (.add (.var 64) (.num 63)) 17, 35, 35), (.pow (.add (.var 64) (.num 63)) 17, 0, 54), (.var 0, 7, 7), (.var 0, 0, 7)] = true := by decide +kernel
set_option maxRecDepth 100000 in
theorem yq35_4 : yzrun (fun _ _ => false) (fun _ _ _ _ _ _ _ => false) 6210 yxs_11 [(.var 128, 4, 4), (.var 128, 4, 5), (.var 128, 4, 7), (.var 128, 4, 2147483647), (.pow (.add (.var 64) (.num 63)) 17, 35, 35), (.pow (.add (.var 64) (.num 63)) 17, 0, 54), (.var 0, 7, 7), (.var 0, 0, 7)] = true := by decide +kernel
set_option maxRecDepth 100000 in
theorem yq35_5 : yzrun (fun _ _ => false) (fun _ _ _ _ _ _ _ => false) 7462 yxs_11 [(.var 128, 5, 5), (.var 128, 4, 5), (.var 128, 4, 7), (.var 128, 4, 2147483647), (.pow (.add (.var 64) (.num 63)) 17, 35, 35), (.pow (.add (.var 64) (.num 63)) 17, 0, 54), (.var 0, 7, 7), (.var 0, 0, 7)] = true := by decide +kernel
end YQ11
