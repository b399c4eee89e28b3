noncomputable section YQ24
set_option maxRecDepth 100000 in
theorem yq5_s7 : yzrun yct5 (xcut [yg5_0.1]) 169 yxs_11 [(.var 128, 6, 6), (.var 128, 6, 7), (.var 128, 4, 7), (.var 128, 0, 7), (.var 128, 0, 2147483647), (.pow (.add (.var 64) (.num 63)) 17, 5, 5), (.pow (.add (.var 64) (.num 63)) 17, 0, 54), (.var 0, 7, 7), (.var 0, 0, 7)] = true := by decide +kernel
end YQ24
noncomputable section YQ25
set_option maxRecDepth 100000 in
theorem yq5_s8 : yzrun yct5 (xcut [yg5_0.1]) 169 yxs_11 [(.var 128, 7, 7), (.var 128, 6, 7), (.var 128, 4, 7), (.var 128, 0, 7), (.var 128, 0, 2147483647), (.pow (.add (.var 64) (.num 63)) 17, 5, 5), (.pow (.add (.var 64) (.num 63)) 17, 0, 54), (.var 0, 7, 7), (.var 0, 0, 7)] = true := by decide +kernel
set_option maxRecDepth 100000 in
theorem yq5_s9 : yzrun yct5 (xcut []) 106 yxs_11 [(.var 128, 8, 2147483647), (.var 128, 0, 2147483647), (.pow (.add (.var 64) (.num 63)) 17, 5, 5), (.pow (.add (.var 64) (.num 63)) 17, 0, 54), (.var 0, 7, 7), (.var 0, 0, 7)] = true := by decide +kernel
set_option maxRecDepth 100000 in
theorem yq0_h8 : yzrun yct0 (xcut ([yg0_8].map (xmz yg0_8.2) ++ [])) 30 yg0_8.1.1 yg0_8.1.2.2.2.1 = true := by decide +kernel
set_option maxRecDepth 100000 in
theorem yq0_h0 : yzrun yct0 (xcut ([yg0_0].map (xmz yg0_0.2) ++ [yg0_8.1])) 121 yg0_0.1.1 yg0_0.1.2.2.2.1 = true := by decide +kernel
set_option maxRecDepth 100000 in
theorem yq0_h1 : yzrun yct0 (xcut ([yg0_1].map (xmz yg0_1.2) ++ [yg0_8.1])) 121 yg0_1.1.1 yg0_1.1.2.2.2.1 = true := by decide +kernel
set_option maxRecDepth 100000 in
theorem yq0_h2 : yzrun yct0 (xcut ([yg0_2].map (xmz yg0_2.2) ++ [yg0_8.1])) 121 yg0_2.1.1 yg0_2.1.2.2.2.1 = true := by decide +kernel
set_option maxRecDepth 100000 in
theorem yq0_h3 : yzrun yct0 (xcut ([yg0_3].map (xmz yg0_3.2) ++ [yg0_8.1])) 121 yg0_3.1.1 yg0_3.1.2.2.2.1 = true := by decide +kernel
set_option maxRecDepth 100000 in
theorem yq0_h4 : yzrun yct0 (xcut ([yg0_4].map (xmz yg0_4.2) ++ [yg0_8.1])) 121 yg0_4.1.1 yg0_4.1.2.2.2.1 = true := by decide +kernel
end YQ25
noncomputable section YQ26
set_option maxRecDepth 100000 in
theorem yq0_h5 : yzrun yct0 (xcut ([yg0_5].map (xmz yg0_5.2) ++ [yg0_8.1])) 121 yg0_5.1.1 yg0_5.1.2.2.2.1 = true := by decide +kernel
set_option maxRecDepth 100000 in
theorem yq0_h6 : yzrun yct0 (xcut ([yg0_6].map (xmz yg0_6.2) ++ [yg0_8.1])) 121 yg0_6.1.1 yg0_6.1.2.2.2.1 = true := by decide +kernel
set_option maxRecDepth 100000 in
theorem yq0_h7 : yzrun yct0 (xcut ([yg0_7].map (xmz yg0_7.2) ++ [yg0_8.1])) 121 yg0_7.1.1 yg0_7.1.2.2.2.1 = true := by decide +kernel
set_option maxRecDepth 100000 in
theorem yq0_s0 : yzrun yct0 (xcut [yg0_0.1, yg0_1.1, yg0_2.1, yg0_3.1, yg0_4.1, yg0_5.1, yg0_6.1, yg0_7.1]) 177 yxs_11 [(.pow (.add (.var 64) (.num 63)) 17, 0, 0), (.pow (.add (.var 64) (.num 63)) 17, 0, 54), (.var 0, 7, 7), (.var 0, 0, 7)] = true := by decide +kernel
set_option maxRecDepth 100000 in
theorem yq6_h4 : yzrun yct6 (xcut ([yg6_4].map (xmz yg6_4.2) ++ [])) 30 yg6_4.1.1 yg6_4.1.2.2.2.1 = true := by decide +kernel
set_option maxRecDepth 100000 in
theorem yq6_h0 : yzrun yct6 (xcut ([yg6_0].map (xmz yg6_0.2) ++ [yg6_4.1])) 120 yg6_0.1.1 yg6_0.1.2.2.2.1 = true := by decide +kernel
set_option maxRecDepth 100000 in
theorem yq6_h1 : yzrun yct6 (xcut ([yg6_1].map (xmz yg6_1.2) ++ [yg6_4.1])) 120 yg6_1.1.1 yg6_1.1.2.2.2.1 = true := by decide +kernel
end YQ26
noncomputable section YQ27
set_option maxRecDepth 100000 in
theorem yq6_h2 : yzrun yct6 (xcut ([yg6_2].map (xmz yg6_2.2) ++ [yg6_4.1])) 120 yg6_2.1.1 yg6_2.1.2.2.2.1 = true := by decide +kernel
set_option maxRecDepth 100000 in
theorem yq6_h3 : yzrun yct6 (xcut ([yg6_3].map (xmz yg6_3.2) ++ [yg6_4.1])) 120 yg6_3.1.1 yg6_3.1.2.2.2.1 = true := by decide +kernel
set_option maxRecDepth 100000 in
theorem yq6_s0 : yzrun yct6 (xcut [yg6_0.1, yg6_1.1, yg6_2.1, yg6_3.1]) 177 yxs_11 [(.pow (.add (.var 64) (.num 63)) 17, 6, 6), (.pow (.add (.var 64) (.num 63)) 17, 0, 54), (.var 0, 7, 7), (.var 0, 0, 7)] = true := by decide +kernel
set_option maxRecDepth 100000 in
theorem yq18_h2 : yzrun yct18 (xcut ([yg18_2].map (xmz yg18_2.2) ++ [])) 203 yg18_2.1.1 yg18_2.1.2.2.2.1 = true := by decide +kernel
set_option maxRecDepth 100000 in
theorem yq18_h1 : yzrun yct18 (xcut ([yg18_1].map (xmz yg18_1.2) ++ [yg18_2.1])) 13 yg18_1.1.1 yg18_1.1.2.2.2.1 = true := by decide +kernel
set_option maxRecDepth 100000 in
theorem yq18_h0 : yzrun yct18 (xcut [yg18_1.1]) 158 yg18_0.1.1 yg18_0.1.2.2.2.1 = true := by decide +kernel
set_option maxRecDepth 100000 in
theorem yq18_s0 : yzrun yct18 (xcut []) 138 yxs_11 [(.var 128, (-2147483648), (-1)), (.pow (.add (.var 64) (.num 63)) 17, 18, 18), (.pow (.add (.var 64) (.num 63)) 17, 0, 54), (.var 0, 7, 7), (.var 0, 0, 7)] = true := by decide +kernel
end YQ27
