noncomputable section YQ32
set_option maxRecDepth 100000 in
theorem yq18_s5 : yzrun yct18 (xcut [yg18_0.1]) 213 yxs_11 [(.var 128, 4, 4), (.var 128, 3, 4), (.var 128, 3, 5), (.var 128, 0, 5), (.var 128, 0, 11), (.var 128, 0, 2147483647), (.pow (.add (.var 64) (.num 63)) 17, 18, 18), (.pow (.add (.var 64) (.num 63)) 17, 0, 54), (.var 0, 7, 7), (.var 0, 0, 7)] = true := by decide +kernel
end YQ32
noncomputable section YQ33
set_option maxRecDepth 100000 in
theorem yq18_s6 : yzrun yct18 (xcut [yg18_0.1]) 213 yxs_11 [(.var 128, 5, 5), (.var 128, 3, 5), (.var 128, 0, 5), (.var 128, 0, 11), (.var 128, 0, 2147483647), (.pow (.add (.var 64) (.num 63)) 17, 18, 18), (.pow (.add (.var 64) (.num 63)) 17, 0, 54), (.var 0, 7, 7), (.var 0, 0, 7)] = true := by decide +kernel
end YQ33
noncomputable section YQ34
set_option maxRecDepth 100000 in
theorem yq18_s7 : yzrun yct18 (xcut [yg18_0.1]) 213 yxs_11 [(.var 128, 6, 6), (.var 128, 6, 7), (.var 128, 6, 8), (.var 128, 6, 11), (.var 128, 0, 11), (.var 128, 0, 2147483647), (.pow (.add (.var 64) (.num 63)) 17, 18, 18), (.pow (.add (.var 64) (.num 63)) 17, 0, 54), (.var 0, 7, 7), (.var 0, 0, 7)] = true := by decide +kernel
end YQ34
noncomputable section YQ35
set_option maxRecDepth 100000 in
theorem yq18_s8 : yzrun yct18 (xcut [yg18_0.1]) 213 yxs_11 [(.var 128, 7, 7), (.var 128, 6, 7), (.var 128, 6, 8), (.var 128, 6, 11), (.var 128, 0, 11), (.var 128, 0, 2147483647), (.pow (.add (.var 64) (.num 63)) 17, 18, 18), (.pow (.add (.var 64) (.num 63)) 17, 0, 54), (.var 0, 7, 7), (.var 0, 0, 7)] = true := by decide +kernel
end YQ35
