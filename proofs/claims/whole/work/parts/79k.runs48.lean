noncomputable section YQ48k
set_option maxRecDepth 100000 in
theorem yq48e3_h0 : yzrun yct48e3 (xcut ([yg48e3_0].map (xmz yg48e3_0.2) ++ [yg48e3_1.1])) 88 yg48e3_0.1.1 yg48e3_0.1.2.2.2.1 = true := by decide +kernel
set_option maxRecDepth 100000 in
theorem yq48e3_s : yzrun yct48e3 (xcut [yg48e3_0.1]) 9 yt48_E0 ((.var 384, 1, 2) :: (.var 320, 3, 3) :: yF48_E0) = true := by decide +kernel
set_option maxRecDepth 100000 in
theorem yq48x_h1 : yzrun yct48x (xcut ([yg48x_1].map (xmz yg48x_1.2) ++ [])) 54 yg48x_1.1.1 yg48x_1.1.2.2.2.1 = true := by decide +kernel
set_option maxRecDepth 100000 in
theorem yq48x_h0 : yzrun yct48x (xcut ([yg48x_0].map (xmz yg48x_0.2) ++ [yg48x_1.1])) 44 yg48x_0.1.1 yg48x_0.1.2.2.2.1 = true := by decide +kernel
set_option maxRecDepth 100000 in
theorem yq48x_s : yzrun yct48x (xcut [yg48x_0.1]) 9 yt48_X0 ((.var 1049153, 0, 0) :: yF48_X0) = true := by decide +kernel
end YQ48k
