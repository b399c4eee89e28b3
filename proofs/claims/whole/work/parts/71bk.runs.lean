noncomputable section YQ36
set_option maxRecDepth 100000 in
theorem yq18_s9 : yzrun yct18 (xcut [yg18_0.1]) 213 yxs_11 [(.var 128, 8, 8), (.var 128, 6, 8), (.var 128, 6, 11), (.var 128, 0, 11), (.var 128, 0, 2147483647), (.pow (.add (.var 64) (.num 63)) 17, 18, 18), (.pow (.add (.var 64) (.num 63)) 17, 0, 54), (.var 0, 7, 7), (.var 0, 0, 7)] = true := by decide +kernel
end YQ36
noncomputable section YQ37
set_option maxRecDepth 100000 in
theorem yq18_s10 : yzrun yct18 (xcut [yg18_0.1]) 213 yxs_11 [(.var 128, 9, 9), (.var 128, 9, 10), (.var 128, 9, 11), (.var 128, 6, 11), (.var 128, 0, 11), (.var 128, 0, 2147483647), (.pow (.add (.var 64) (.num 63)) 17, 18, 18), (.pow (.add (.var 64) (.num 63)) 17, 0, 54), (.var 0, 7, 7), (.var 0, 0, 7)] = true := by decide +kernel
end YQ37
noncomputable section YQ38
set_option maxRecDepth 100000 in
theorem yq18_s11 : yzrun yct18 (xcut [yg18_0.1]) 213 yxs_11 [(.var 128, 10, 10), (.var 128, 9, 10), (.var 128, 9, 11), (.var 128, 6, 11), (.var 128, 0, 11), (.var 128, 0, 2147483647), (.pow (.add (.var 64) (.num 63)) 17, 18, 18), (.pow (.add (.var 64) (.num 63)) 17, 0, 54), (.var 0, 7, 7), (.var 0, 0, 7)] = true := by decide +kernel
end YQ38
noncomputable section YQ39
set_option maxRecDepth 100000 in
theorem yq18_s12 : yzrun yct18 (xcut [yg18_0.1]) 213 yxs_11 [(.var 128, 11, 11), (.var 128, 9, 11), (.var 128, 6, 11), (.var 128, 0, 11), (.var 128, 0, 2147483647), (.pow (.add (.var 64) (.num 63)) 17, 18, 18), (.pow (.add (.var 64) (.num 63)) 17, 0, 54), (.var 0, 7, 7), (.var 0, 0, 7)] = true := by decide +kernel
set_option maxRecDepth 100000 in
theorem yq18_s13 : yzrun yct18 (xcut []) 144 yxs_11 [(.var 128, 12, 2147483647), (.var 128, 0, 2147483647), (.pow (.add (.var 64) (.num 63)) 17, 18, 18), (.pow (.add (.var 64) (.num 63)) 17, 0, 54), (.var 0, 7, 7), (.var 0, 0, 7)] = true := by decide +kernel
set_option maxRecDepth 100000 in
theorem yq54_0 : yzrun (fun _ _ => false) (xat yn54_1.1) 9000 yxs_11 [(.pow (.add (.var 64) (.num 63)) 17, 54, 54), (.pow (.add (.var 64) (.num 63)) 17, 0, 54), (.var 0, 7, 7), (.var 0, 0, 7)] = true := by decide +kernel
end YQ39
