noncomputable section YQ13
set_option maxRecDepth 100000 in
theorem yq43_0 : yzrun (fun _ _ => false) (fun _ _ _ _ _ _ _ => false) 1261 yxs_11 [(.var 128, (-2147483648), 5), (.pow (.add (.var 64) (.num 63)) 17, 43, 43), (.pow (.add (.var 64) (.num 63)) 17, 0, 54), (.var 0, 7, 7), (.var 0, 0, 7)] = true := by decide +kernel
set_option maxRecDepth 100000 in
theorem yq43_1 : yzrun (fun _ _ => false) (fun _ _ _ _ _ _ _ => false) 1261 yxs_11 [(.var 128, 6, 2147483647), (.pow (.add (.var 64) (.num 63)) 17, 43, 43), (.pow (.add (.var 64) (.num 63)) 17, 0, 54), (.var 0, 7, 7), (.var 0, 0, 7)] = true := by decide +kernel
set_option maxRecDepth 100000 in
theorem yq44_0 : yzrun (fun _ _ => false) (fun _ _ _ _ _ _ _ => false) 355 yxs_11 [(.pow (.add (.var 64) (.num 63)) 17, 44, 44), (.pow (.add (.var 64) (.num 63)) 17, 0, 54), (.var 0, 7, 7), (.var 0, 0, 7)] = true := by decide +kernel
set_option maxRecDepth 100000 in
theorem yq45_0 : yzrun (fun _ _ => false) (fun _ _ _ _ _ _ _ => false) 130 yxs_11 [(.pow (.add (.var 64) (.num 63)) 17, 45, 45), (.pow (.add (.var 64) (.num 63)) 17, 0, 54), (.var 0, 7, 7), (.var 0, 0, 7)] = true := by decide +kernel
set_option maxRecDepth 100000 in
theorem yq46_0 : yzrun (fun _ _ => false) (fun _ _ _ _ _ _ _ => false) 333 yxs_11 [(.pow (.add (.var 64) (.num 63)) 17, 46, 46), (.pow (.add (.var 64) (.num 63)) 17, 0, 54), (.var 0, 7, 7), (.var 0, 0, 7)] = true := by decide +kernel
set_option maxRecDepth 100000 in
theorem yq47_0 : yzrun (fun _ _ => false) (fun _ _ _ _ _ _ _ => false) 128 yxs_11 [(.pow (.add (.var 64) (.num 63)) 17, 47, 47), (.pow (.add (.var 64) (.num 63)) 17, 0, 54), (.var 0, 7, 7), (.var 0, 0, 7)] = true := by decide +kernel
set_option maxRecDepth 100000 in
theorem yq49_0 : yzrun (fun _ _ => false) (fun _ _ _ _ _ _ _ => false) 133 yxs_11 [(.pow (.add (.var 64) (.num 63)) 17, 49, 49), (.pow (.add (.var 64) (.num 63)) 17, 0, 54), (.var 0, 7, 7), (.var 0, 0, 7)] = true := by decide +kernel
set_option maxRecDepth 100000 in
theorem yq50_0 : yzrun (fun _ _ => false) (fun _ _ _ _ _ _ _ => false) 101 yxs_11 [(.pow (.add (.var 64) (.num 63)) 17, 50, 50), (.pow (.add (.var 64) (.num 63)) 17, 0, 54), (.var 0, 7, 7), (.var 0, 0, 7)] = true := by decide +kernel
set_option maxRecDepth 100000 in
theorem yq51_0 : yzrun (fun _ _ => false) (fun _ _ _ _ _ _ _ => false) 174 yxs_11 [(.pow (.add (.var 64) (.num 63)) 17, 51, 51), (.pow (.add (.var 64) (.num 63)) 17, 0, 54), (.var 0, 7, 7), (.var 0, 0, 7)] = true := by decide +kernel
set_option maxRecDepth 100000 in
theorem yq52_0 : yzrun (fun _ _ => false) (fun _ _ _ _ _ _ _ => false) 299 yxs_11 [(.var 128, (-2147483648), 0), (.var 192, (-2147483648), 0), (.var 192, (-2147483648), 1), (.pow (.add (.var 64) (.num 63)) 17, 52, 52), (.pow (.add (.var 64) (.num 63)) 17, 0, 54), (.var 0, 7, 7), (.var 0, 0, 7)] = true := by decide +kernel
set_option maxRecDepth 100000 in
theorem yq52_1 : yzrun (fun _ _ => false) (fun _ _ _ _ _ _ _ => false) 262 yxs_11 [(.var 256, (-2147483648), 1), (.var 128, 1, 1), (.var 128, 1, 2147483647), (.var 192, (-2147483648), 0), (.var 192, (-2147483648), 1), (.pow (.add (.var 64) (.num 63)) 17, 52, 52), (.pow (.add (.var 64) (.num 63)) 17, 0, 54), (.var 0, 7, 7), (.var 0, 0, 7)] = true := by decide +kernel
set_option maxRecDepth 100000 in
theorem yq52_2 : yzrun (fun _ _ => false) (fun _ _ _ _ _ _ _ => false) 182 yxs_11 [(.var 192, (-2147483648), (-1)), (.var 256, 2, 2), (.var 256, 2, 2147483647), (.var 128, 1, 1), (.var 128, 1, 2147483647), (.var 192, (-2147483648), 0), (.var 192, (-2147483648), 1), (.pow (.add (.var 64) (.num 63)) 17, 52, 52), (.pow (.add (.var 64) (.num 63)) 17, 0, 54), (.var 0, 7, 7), (.var 0, 0, 7)] = true := by decide +kernel
end YQ13
