noncomputable section YQ19
set_option maxRecDepth 100000 in
theorem yq18_h1 : yzrun yct18 (xcut ([yg18_1].map (xmz yg18_1.2) ++ [yg18_2.1])) 13 yg18_1.1.1 yg18_1.1.2.2.2.1 = true := by decide +kernel
set_option maxRecDepth 100000 in
theorem yq18_h0 : yzrun yct18 (xcut [yg18_1.1]) 158 yg18_0.1.1 yg18_0.1.2.2.2.1 = true := by decide +kernel
end YQ19
