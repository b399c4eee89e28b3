noncomputable section YQ28
set_option maxRecDepth 100000 in
theorem yq18_s1 : yzrun yct18 (xcut [yg18_0.1]) 213 yxs_11 [(.var 128, 0, 0), (.var 128, 0, 1), (.var 128, 0, 2), (.var 128, 0, 5), (.var 128, 0, 11), (.var 128, 0, 2147483647), (.pow (.add (.var 64) (.num 63)) 17, 18, 18), (.pow (.add (.var 64) (.num 63)) 17, 0, 54), (.var 0, 7, 7), (.var 0, 0, 7)] = true := by decide +kernel
end YQ28
noncomputable section YQ29
set_option maxRecDepth 100000 in
theorem yq18_s2 : yzrun yct18 (xcut [yg18_0.1]) 213 yxs_11 [(.var 128, 1, 1), (.var 128, 0, 1), (.var 128, 0, 2), (.var 128, 0, 5), (.var 128, 0, 11), (.var 128, 0, 2147483647), (.pow (.add (.var 64) (.num 63)) 17, 18, 18), (.pow (.add (.var 64) (.num 63)) 17, 0, 54), (.var 0, 7, 7), (.var 0, 0, 7)] = true := by decide +kernel
end YQ29
noncomputable section YQ30
set_option maxRecDepth 100000 in
theorem yq18_s3 : yzrun yct18 (xcut [yg18_0.1]) 213 yxs_11 [(.var 128, 2, 2), (.var 128, 0, 2), (.var 128, 0, 5), (.var 128, 0, 11), (.var 128, 0, 2147483647), (.pow (.add (.var 64) (.num 63)) 17, 18, 18), (.pow (.add (.var 64) (.num 63)) 17, 0, 54), (.var 0, 7, 7), (.var 0, 0, 7)] = true := by decide +kernel
end YQ30
noncomputable section YQ31
set_option maxRecDepth 100000 in
theorem yq18_s4 : yzrun yct18 (xcut [yg18_0.1]) 213 yxs_11 [(.var 128, 3, 3), (.var 128, 3, 4), (.var 128, 3, 5), (.var 128, 0, 5), (.var 128, 0, 11), (.var 128, 0, 2147483647), (.pow (.add (.var 64) (.num 63)) 17, 18, 18), (.pow (.add (.var 64) (.num 63)) 17, 0, 54), (.var 0, 7, 7), (.var 0, 0, 7)] = true := by decide +kernel
end YQ31
