noncomputable section YQ48j
set_option maxRecDepth 100000 in
theorem yq48e1_h1 : yzrun yct48e1 (xcut ([yg48e1_1].map (xmz yg48e1_1.2) ++ [ye48])) 3523 yg48e1_1.1.1 yg48e1_1.1.2.2.2.1 = true := by decide +kernel
set_option maxRecDepth 100000 in
theorem yq48e1_h0 : yzrun yct48e1 (xcut ([yg48e1_0].map (xmz yg48e1_0.2) ++ [yg48e1_1.1])) 88 yg48e1_0.1.1 yg48e1_0.1.2.2.2.1 = true := by decide +kernel
set_option maxRecDepth 100000 in
theorem yq48e1_s : yzrun yct48e1 (xcut [yg48e1_0.1]) 9 yt48_E0 ((.var 384, 0, 60000) :: (.var 320, 1, 1) :: yF48_E0) = true := by decide +kernel
set_option maxRecDepth 100000 in
theorem yq48e2_h1 : yzrun yct48e2 (xcut ([yg48e2_1].map (xmz yg48e2_1.2) ++ [ye48])) 3514 yg48e2_1.1.1 yg48e2_1.1.2.2.2.1 = true := by decide +kernel
set_option maxRecDepth 100000 in
theorem yq48e2_h0 : yzrun yct48e2 (xcut ([yg48e2_0].map (xmz yg48e2_0.2) ++ [yg48e2_1.1])) 88 yg48e2_0.1.1 yg48e2_0.1.2.2.2.1 = true := by decide +kernel
set_option maxRecDepth 100000 in
theorem yq48e2_s : yzrun yct48e2 (xcut [yg48e2_0.1]) 9 yt48_E0 ((.var 384, 0, 0) :: (.var 320, 2, 2) :: yF48_E0) = true := by decide +kernel
set_option maxRecDepth 100000 in
theorem yq48e3_h1 : yzrun yct48e3 (xcut ([yg48e3_1].map (xmz yg48e3_1.2) ++ [ye48])) 3529 yg48e3_1.1.1 yg48e3_1.1.2.2.2.1 = true := by decide +kernel
end YQ48j
