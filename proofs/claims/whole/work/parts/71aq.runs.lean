noncomputable section YQ16
set_option maxRecDepth 100000 in
theorem yq0_s : yzrun yct0 (xcut [yg0_0.1, yg0_1.1, yg0_2.1, yg0_3.1, yg0_4.1, yg0_5.1, yg0_6.1, yg0_7.1]) 177 yxs_11 [(.pow (.add (.var 64) (.num 63)) 17, 0, 0), (.pow (.add (.var 64) (.num 63)) 17, 0, 54), (.var 0, 7, 7), (.var 0, 0, 7)] = true := by decide +kernel
end YQ16
