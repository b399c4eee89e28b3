noncomputable section YQ25
set_option maxRecDepth 100000 in
theorem yq5_s8 : yzrun yct5 (xcut [yg5_0.1]) 169 yxs_11 [(.var 128, 7, 7), (.var 128, 6, 7), (.var 128, 4, 7), (.var 128, 0, 7), (.var 128, 0, 2147483647), (.pow (.add (.var 64) (.num 63)) 17, 5, 5), (.pow (.add (.var 64) (.num 63)) 17, 0, 54), (.var 0, 7, 7), (.var 0, 0, 7)] = true := by decide +kernel
set_option maxRecDepth 100000 in
theorem yq5_s9 : yzrun yct5 (xcut []) 106 yxs_11 [(.var 128, 8, 2147483647), (.var 128, 0, 2147483647), (.pow (.add (.var 64) (.num 63)) 17, 5, 5), (.pow (.add (.var 64) (.num 63)) 17, 0, 54), (.var 0, 7, 7), (.var 0, 0, 7)] = true := by decide +kernel
set_option maxRecDepth 100000 in
theorem yq0_h8 : yzrun yct0 (xcut ([yg0_8].map (xmz yg0_8.2) ++ [])) 30 yg0_8.1.1 yg0_8.1.2.2.2.1 = true := by decide +kernel
set_option maxRecDepth 100000 in
theorem yq0_h0 : yzrun yct0 (xcut ([yg0_0].map (xmz yg0_0.2) ++ [yg0_8.1])) 121 yg0_0.1.1 yg0_0.1.2.2.2.1 = true := by decide +kernel
set_option maxRecDepth 100000 in
theorem yq0_h1 : yzrun yct0 (xcut ([yg0_1].map (xmz yg0_1.2) ++ [yg0_8.1])) 121 yg0_1.1.1 yg0_1.1.2.2.2.1 = true := by decide +kernel
set_option maxRecDepth 100000 in
theorem yq0_h2 : yzrun yct0 (xcut ([yg0_2].map (xmz yg0_2.2) ++ [yg0_8.1])) 121 yg0_2.1.1 yg0_2.1.2.2.2.1 = true := by decide +kernel
set_option maxRecDepth 100000 in
theorem yq0_h3 : yzrun yct0 (xcut ([yg0_3].map (xmz yg0_3.2) ++ [yg0_8.1])) 121 yg0_3.1.1 yg0_3.1.2.2.2.1 = true := by decide +kernel
set_option maxRecDepth 100000 in
theorem yq0_h4 : yzrun yct0 (xcut ([yg0_4].map (xmz yg0_4.2) ++ [yg0_8.1])) 121 yg0_4.1.1 yg0_4.1.2.2.2.1 = true := by decide +kernel
end YQ25
