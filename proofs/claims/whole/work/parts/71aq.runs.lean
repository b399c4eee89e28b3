noncomputable section YQ16
set_option maxRecDepth 100000 in
theorem yq52_13 : yzrun (fun _ _ => false) (fun _ _ _ _ _ _ _ => false) 12386 yxs_11 [(.var 256, 2, 2), (.var 128, 1, 1), (.var 128, 1, 2147483647), (.var 256, 2, 2147483647), (.var 192, 2, 2), (.var 192, 2, 2147483647), (.pow (.add (.var 64) (.num 63)) 17, 52, 52), (.pow (.add (.var 64) (.num 63)) 17, 0, 54), (.var 0, 7, 7), (.var 0, 0, 7)] = true := by decide +kernel
set_option maxRecDepth 100000 in
theorem yq52_14 : yzrun (fun _ _ => false) (fun _ _ _ _ _ _ _ => false) 207 yxs_11 [(.var 256, 3, 2147483647), (.var 128, 1, 1), (.var 128, 1, 2147483647), (.var 256, 2, 2147483647), (.var 192, 2, 2), (.var 192, 2, 2147483647), (.pow (.add (.var 64) (.num 63)) 17, 52, 52), (.pow (.add (.var 64) (.num 63)) 17, 0, 54), (.var 0, 7, 7), (.var 0, 0, 7)] = true := by decide +kernel
set_option maxRecDepth 100000 in
theorem yq52_15 : yzrun (fun _ _ => false) (fun _ _ _ _ _ _ _ => false) 196 yxs_11 [(.var 128, 2, 2147483647), (.var 128, 1, 2147483647), (.var 256, 2, 2147483647), (.var 192, 2, 2), (.var 192, 2, 2147483647), (.pow (.add (.var 64) (.num 63)) 17, 52, 52), (.pow (.add (.var 64) (.num 63)) 17, 0, 54), (.var 0, 7, 7), (.var 0, 0, 7)] = true := by decide +kernel
set_option maxRecDepth 100000 in
theorem yq52_16 : yzrun (fun _ _ => false) (fun _ _ _ _ _ _ _ => false) 263 yxs_11 [(.var 256, (-2147483648), 1), (.var 192, 3, 3), (.var 192, 3, 2147483647), (.var 192, 2, 2147483647), (.pow (.add (.var 64) (.num 63)) 17, 52, 52), (.pow (.add (.var 64) (.num 63)) 17, 0, 54), (.var 0, 7, 7), (.var 0, 0, 7)] = true := by decide +kernel
set_option maxRecDepth 100000 in
theorem yq52_17 : yzrun (fun _ _ => false) (fun _ _ _ _ _ _ _ => false) 299 yxs_11 [(.var 128, (-2147483648), 0), (.var 256, 2, 2147483647), (.var 192, 3, 3), (.var 192, 3, 2147483647), (.var 192, 2, 2147483647), (.pow (.add (.var 64) (.num 63)) 17, 52, 52), (.pow (.add (.var 64) (.num 63)) 17, 0, 54), (.var 0, 7, 7), (.var 0, 0, 7)] = true := by decide +kernel
end YQ16
noncomputable section YQ17
set_option maxRecDepth 100000 in
theorem yq52_18 : yzrun (fun _ _ => false) (fun _ _ _ _ _ _ _ => false) 12386 yxs_11 [(.var 256, 2, 2), (.var 128, 1, 1), (.var 128, 1, 2147483647), (.var 256, 2, 2147483647), (.var 192, 3, 3), (.var 192, 3, 2147483647), (.var 192, 2, 2147483647), (.pow (.add (.var 64) (.num 63)) 17, 52, 52), (.pow (.add (.var 64) (.num 63)) 17, 0, 54), (.var 0, 7, 7), (.var 0, 0, 7)] = true := by decide +kernel
set_option maxRecDepth 100000 in
theorem yq52_19 : yzrun (fun _ _ => false) (fun _ _ _ _ _ _ _ => false) 207 yxs_11 [(.var 256, 3, 2147483647), (.var 128, 1, 1), (.var 128, 1, 2147483647), (.var 256, 2, 2147483647), (.var 192, 3, 3), (.var 192, 3, 2147483647), (.var 192, 2, 2147483647), (.pow (.add (.var 64) (.num 63)) 17, 52, 52), (.pow (.add (.var 64) (.num 63)) 17, 0, 54), (.var 0, 7, 7), (.var 0, 0, 7)] = true := by decide +kernel
set_option maxRecDepth 100000 in
theorem yq52_20 : yzrun (fun _ _ => false) (fun _ _ _ _ _ _ _ => false) 196 yxs_11 [(.var 128, 2, 2147483647), (.var 128, 1, 2147483647), (.var 256, 2, 2147483647), (.var 192, 3, 3), (.var 192, 3, 2147483647), (.var 192, 2, 2147483647), (.pow (.add (.var 64) (.num 63)) 17, 52, 52), (.pow (.add (.var 64) (.num 63)) 17, 0, 54), (.var 0, 7, 7), (.var 0, 0, 7)] = true := by decide +kernel
set_option maxRecDepth 100000 in
theorem yq52_21 : yzrun (fun _ _ => false) (fun _ _ _ _ _ _ _ => false) 299 yxs_11 [(.var 192, 4, 2147483647), (.var 192, 3, 2147483647), (.var 192, 2, 2147483647), (.pow (.add (.var 64) (.num 63)) 17, 52, 52), (.pow (.add (.var 64) (.num 63)) 17, 0, 54), (.var 0, 7, 7), (.var 0, 0, 7)] = true := by decide +kernel
set_option maxRecDepth 100000 in
theorem yq53_0 : yzrun (fun _ _ => false) (fun _ _ _ _ _ _ _ => false) 380 yxs_11 [(.pow (.add (.var 64) (.num 63)) 17, 53, 53), (.pow (.add (.var 64) (.num 63)) 17, 0, 54), (.var 0, 7, 7), (.var 0, 0, 7)] = true := by decide +kernel
set_option maxRecDepth 100000 in
theorem yq55_0 : yzrun (fun _ _ => false) (fun _ _ _ _ _ _ _ => false) 22 yxs_11 [(.pow (.add (.var 64) (.num 63)) 17, 55, 63), (.var 0, 7, 7), (.var 0, 0, 7)] = true := by decide +kernel
set_option maxRecDepth 100000 in
theorem yq56_0 : yzrun (fun _ _ => false) (fun _ _ _ _ _ _ _ => false) 8 yxs_11 [(.var 0, 0, 6), (.var 0, 0, 7)] = true := by decide +kernel
set_option maxRecDepth 100000 in
theorem yq5_h0 : yzrun yct5 (xcut ([yg5_0].map (xmz yg5_0.2) ++ [])) 40 yg5_0.1.1 yg5_0.1.2.2.2.1 = true := by decide +kernel
set_option maxRecDepth 100000 in
theorem yq5_s0 : yzrun yct5 (xcut []) 100 yxs_11 [(.var 128, (-2147483648), (-1)), (.pow (.add (.var 64) (.num 63)) 17, 5, 5), (.pow (.add (.var 64) (.num 63)) 17, 0, 54), (.var 0, 7, 7), (.var 0, 0, 7)] = true := by decide +kernel
end YQ17
noncomputable section YQ18
set_option maxRecDepth 100000 in
theorem yq5_s1 : yzrun yct5 (xcut [yg5_0.1]) 169 yxs_11 [(.var 128, 0, 0), (.var 128, 0, 1), (.var 128, 0, 3), (.var 128, 0, 7), (.var 128, 0, 2147483647), (.pow (.add (.var 64) (.num 63)) 17, 5, 5), (.pow (.add (.var 64) (.num 63)) 17, 0, 54), (.var 0, 7, 7), (.var 0, 0, 7)] = true := by decide +kernel
end YQ18
noncomputable section YQ19
set_option maxRecDepth 100000 in
theorem yq5_s2 : yzrun yct5 (xcut [yg5_0.1]) 169 yxs_11 [(.var 128, 1, 1), (.var 128, 0, 1), (.var 128, 0, 3), (.var 128, 0, 7), (.var 128, 0, 2147483647), (.pow (.add (.var 64) (.num 63)) 17, 5, 5), (.pow (.add (.var 64) (.num 63)) 17, 0, 54), (.var 0, 7, 7), (.var 0, 0, 7)] = true := by decide +kernel
end YQ19
