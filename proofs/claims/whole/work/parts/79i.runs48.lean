noncomputable section YQ48i
set_option maxRecDepth 100000 in
theorem yq48_S : yzrun yct48_a (xcut [yc48_182, yc48_183, yc48_184, yc48_185]) 1962 yt48_S (yF48_S) = true := by decide +kernel
set_option maxRecDepth 100000 in
theorem yq48e0_h1 : yzrun yct48e0 (xcut ([yg48e0_1].map (xmz yg48e0_1.2) ++ [ye48])) 3520 yg48e0_1.1.1 yg48e0_1.1.2.2.2.1 = true := by decide +kernel
set_option maxRecDepth 100000 in
theorem yq48e0_h0 : yzrun yct48e0 (xcut ([yg48e0_0].map (xmz yg48e0_0.2) ++ [yg48e0_1.1])) 88 yg48e0_0.1.1 yg48e0_0.1.2.2.2.1 = true := by decide +kernel
set_option maxRecDepth 100000 in
theorem yq48e0_s : yzrun yct48e0 (xcut [yg48e0_0.1]) 9 yt48_E0 ((.var 384, 0, 3) :: (.var 320, 0, 0) :: yF48_E0) = true := by decide +kernel
end YQ48i
