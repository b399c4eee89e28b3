noncomputable section YQ17
set_option maxRecDepth 100000 in
theorem yq6_h4 : yzrun yct6 (xcut ([yg6_4].map (xmz yg6_4.2) ++ [])) 30 yg6_4.1.1 yg6_4.1.2.2.2.1 = true := by decide +kernel
set_option maxRecDepth 100000 in
theorem yq6_h0 : yzrun yct6 (xcut ([yg6_0].map (xmz yg6_0.2) ++ [yg6_4.1])) 120 yg6_0.1.1 yg6_0.1.2.2.2.1 = true := by decide +kernel
set_option maxRecDepth 100000 in
theorem yq6_h1 : yzrun yct6 (xcut ([yg6_1].map (xmz yg6_1.2) ++ [yg6_4.1])) 120 yg6_1.1.1 yg6_1.1.2.2.2.1 = true := by decide +kernel
set_option maxRecDepth 100000 in
theorem yq6_h2 : yzrun yct6 (xcut ([yg6_2].map (xmz yg6_2.2) ++ [yg6_4.1])) 120 yg6_2.1.1 yg6_2.1.2.2.2.1 = true := by decide +kernel
set_option maxRecDepth 100000 in
theorem yq6_h3 : yzrun yct6 (xcut ([yg6_3].map (xmz yg6_3.2) ++ [yg6_4.1])) 120 yg6_3.1.1 yg6_3.1.2.2.2.1 = true := by decide +kernel
end YQ17
