noncomputable section YQ15
set_option maxRecDepth 100000 in
theorem yq0_h8 : yzrun yct0 (xcut ([yg0_8].map (xmz yg0_8.2) ++ [])) 30 yg0_8.1.1 yg0_8.1.2.2.2.1 = true := by decide +kernel
set_option maxRecDepth 100000 in
theorem yq0_h0 : yzrun yct0 (xcut ([yg0_0].map (xmz yg0_0.2) ++ [yg0_8.1])) 121 yg0_0.1.1 yg0_0.1.2.2.2.1 = true := by decide +kernel
set_option maxRecDepth 100000 in
theorem yq0_h1 : yzrun yct0 (xcut ([yg0_1].map (xmz yg0_1.2) ++ [yg0_8.1])) 121 yg0_1.1.1 yg0_1.1.2.2.2.1 = true := by decide +kernel
set_option maxRecDepth 100000 in
theorem yq0_h2 : yzrun yct0 (xcut ([yg0_2].map (xmz yg0_2.2) ++ [yg0_8.1])) 121 yg0_2.1.1 yg0_2.1.2.2.2.1 = true := by decide +kernel
set_option maxRecDepth 100000 in
theorem yq0_h3 : yzrun yct0 (xcut ([yg0_3].map (xmz yg0_3.2) ++ [yg0_8.1])) 121 yg0_3.1.1 yg0_3.1.2.2.2.1 = true := by decide +kernel
set_option maxRecDepth 100000 in
theorem yq0_h4 : yzrun yct0 (xcut ([yg0_4].map (xmz yg0_4.2) ++ [yg0_8.1])) 121 yg0_4.1.1 yg0_4.1.2.2.2.1 = true := by decide +kernel
set_option maxRecDepth 100000 in
theorem yq0_h5 : yzrun yct0 (xcut ([yg0_5].map (xmz yg0_5.2) ++ [yg0_8.1])) 121 yg0_5.1.1 yg0_5.1.2.2.2.1 = true := by decide +kernel
set_option maxRecDepth 100000 in
theorem yq0_h6 : yzrun yct0 (xcut ([yg0_6].map (xmz yg0_6.2) ++ [yg0_8.1])) 121 yg0_6.1.1 yg0_6.1.2.2.2.1 = true := by decide +kernel
set_option maxRecDepth 100000 in
theorem yq0_h7 : yzrun yct0 (xcut ([yg0_7].map (xmz yg0_7.2) ++ [yg0_8.1])) 121 yg0_7.1.1 yg0_7.1.2.2.2.1 = true := by decide +kernel
end YQ15
