noncomputable section YQ27
set_option maxRecDepth 100000 in
theorem yq6_h2 : yzrun yct6 (xcut ([yg6_2].map (xmz yg6_2.2) ++ [yg6_4.1])) 120 yg6_2.1.1 yg6_2.1.2.2.2.1 = true := by decide +kernel
set_option maxRecDepth 100000 in
theorem yq6_h3 : yzrun yct6 (xcut ([yg6_3].map (xmz yg6_3.2) ++ [yg6_4.1])) 120 yg6_3.1.1 yg6_3.1.2.2.2.1 = true := by decide +kernel
set_option maxRecDepth 100000 in
theorem yq6_s0 : yzrun yct6 (xcut [yg6_0.1, yg6_1.1, yg6_2.1, yg6_3.1]) 177 yxs_11 [(.pow (.add (.var 64) (.num 63)) 17, 6, 6), (.pow (.add (.var 64) (.num 63)) 17, 0, 54), (.var 0, 7, 7), (.var 0, 0, 7)] = true := by decide +kernel
set_option maxRecDepth 100000 in
theorem yq18_h2 : yzrun yct18 (xcut ([yg18_2].map (xmz yg18_2.2) ++ [])) 203 yg18_2.1.1 yg18_2.1.2.2.2.1 = true := by decide +kernel
set_option maxRecDepth 100000 in
theorem yq18_h1 : yzrun yct18 (xcut ([yg18_1].map (xmz yg18_1.2) ++ [yg18_2.1])) 13 yg18_1.1.1 yg18_1.1.2.2.2.1 = true := by decide +kernel
set_option maxRecDepth 100000 in
theorem yq18_h0 : yzrun yct18 (xcut [yg18_1.1]) 158 yg18_0.1.1 yg18_0.1.2.2.2.1 = true := by decide +kernel
set_option maxRecDepth 100000 in
theorem yq18_s0 : yzrun yct18 (xcut []) 138 yxs_11 [(.var 128, (-2147483648), (-1)), (.pow (.add (.var 64) (.num 63)) 17, 18, 18), (.pow (.add (.var 64) (.num 63)) 17, 0, 54), (.var 0, 7, 7), (.var 0, 0, 7)] = true := by decide +kernel
end YQ27
