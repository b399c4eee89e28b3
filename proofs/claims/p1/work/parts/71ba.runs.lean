noncomputable section YQ26
set_option maxRecDepth 100000 in
theorem yq0_h5 : yzrun yct0 (xcut ([yg0_5].map (xmz yg0_5.2) ++ [yg0_8.1])) 121 yg0_5.1.1 yg0_5.1.2.2.2.1 = true := by decide +kernel
set_option maxRecDepth 100000 in
theorem yq0_h6 : yzrun yct0 (xcut ([yg0_6].map (xmz yg0_6.2) ++ [yg0_8.1])) 121 yg0_6.1.1 yg0_6.1.2.2.2.1 = true := by decide +kernel
set_option maxRecDepth 100000 in
theorem yq0_h7 : yzrun yct0 (xcut ([yg0_7].map (xmz yg0_7.2) ++ [yg0_8.1])) 121 yg0_7.1.1 yg0_7.1.2.2.2.1 = true := by decide +kernel
set_option maxRecDepth 100000 in
theorem yq0_s0 : yzrun yct0 (xcut [yg0_0.1, yg0_1.1, yg0_2.1, yg0_3.1, yg0_4.1, yg0_5.1, yg0_6.1, yg0_7.1]) 177 yxs_11 [(.pow (.add (.var 64) (.num 63)) 17, 0, 0), (.pow (.add (.var 64) (.num 63)) 17, 0, 54), (.var 0, 7, 7), (.var 0, 0, 7)] = true := by decide +kernel
set_option maxRecDepth 100000 in
theorem yq6_h4 : yzrun yct6 (xcut ([yg6_4].map (xmz yg6_4.2) ++ [])) 30 yg6_4.1.1 yg6_4.1.2.2.2.1 = true := by decide +kernel
set_option maxRecDepth 100000 in
theorem yq6_h0 : yzrun yct6 (xcut ([yg6_0].map (xmz yg6_0.2) ++ [yg6_4.1])) 120 yg6_0.1.1 yg6_0.1.2.2.2.1 = true := by decide +kernel
set_option maxRecDepth 100000 in
theorem yq6_h1 : yzrun yct6 (xcut ([yg6_1].map (xmz yg6_1.2) ++ [yg6_4.1])) 120 yg6_1.1.1 yg6_1.1.2.2.2.1 = true := by decide +kernel
end YQ26
