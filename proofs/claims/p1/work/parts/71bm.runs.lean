noncomputable section YQ38
set_option maxRecDepth 100000 in
theorem yq18_s11 : yzrun yct18 (xcut [yg18_0.1]) 213 yxs_11 [(.var 128, 10, 10), (.var 128, 9, 10), (.var 128, 9, 11), (.var 128, 6, 11), (.var 128, 0, 11), (.var 128, 0, 2147483647), (.pow (.add (.var 64) (.num 63)) 17, 18, 18), (.pow (.add (.var 64) (.num 63)) 17, 0, 54), (.var 0, 7, 7), (.var 0, 0, 7)] = true := by decide +kernel
end YQ38
