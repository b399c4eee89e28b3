noncomputable section YQ20
set_option maxRecDepth 100000 in
theorem yq5_s3 : yzrun yct5 (xcut [yg5_0.1]) 169 yxs_11 [(.var 128, 2, 2), (.var 128, 2, 3), (.var 128, 0, 3), (.var 128, 0, 7), (.var 128, 0, 2147483647), (.pow (.add (.var 64) (.num 63)) 17, 5, 5), (.pow (.add (.var 64) (.num 63)) 17, 0, 54), (.var 0, 7, 7), (.var 0, 0, 7)] = true := by decide +kernel
end YQ20
noncomputable section YQ21
set_option maxRecDepth 100000 in
theorem yq5_s4 : yzrun yct5 (xcut [yg5_0.1]) 169 yxs_11 [(.var 128, 3, 3), (.var 128, 2, 3), (.var 128, 0, 3), (.var 128, 0, 7), (.var 128, 0, 2147483647), (.pow (.add (.var 64) (.num 63)) 17, 5, 5), (.pow (.add (.var 64) (.num 63)) 17, 0, 54), (.var 0, 7, 7), (.var 0, 0, 7)] = true := by decide +kernel
end YQ21
noncomputable section YQ22
set_option maxRecDepth 100000 in
theorem yq5_s5 : yzrun yct5 (xcut [yg5_0.1]) 169 yxs_11 [(.var 128, 4, 4), (.var 128, 4, 5), (.var 128, 4, 7), (.var 128, 0, 7), (.var 128, 0, 2147483647), (.pow (.add (.var 64) (.num 63)) 17, 5, 5), (.pow (.add (.var 64) (.num 63)) 17, 0, 54), (.var 0, 7, 7), (.var 0, 0, 7)] = true := by decide +kernel
end YQ22
noncomputable section YQ23
set_option maxRecDepth 100000 in
theorem yq5_s6 : yzrun yct5 (xcut [yg5_0.1]) 169 yxs_11 [(.var 128, 5, 5), (.var 128, 4, 5), (.var 128, 4, 7), (.var 128, 0, 7), (.var 128, 0, 2147483647), (.pow (.add (.var 64) (.num 63)) 17, 5, 5), (.pow (.add (.var 64) (.num 63)) 17, 0, 54), (.var 0, 7, 7), (.var 0, 0, 7)] = true := by decide +kernel
end YQ23
